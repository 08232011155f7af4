/-! CONTRACTS: the reference's cup, ends and faces. -/
theorem mem_take_succ {xs : List Int32} {j : Nat} (h : j < xs.length) (t : Int32) : t ∈ xs.take (j + 1) ↔ t ∈ xs.take j ∨ xs.getD j 0 = t := by
  rw [take_snoc xs h, List.mem_append, List.mem_singleton]
  constructor
  · rintro (q | q)
    · exact Or.inl q
    · exact Or.inr q.symm
  · rintro (q | q)
    · exact Or.inl q
    · exact Or.inr q.symm
theorem c_X8_hasLost {l : Launch} (hl : l.stackTraces = false) (M : Mem) (o : Ou) {L : List Int32} (t : Int32) (hL : Lst (M 44) (M 11 23) L) : Ct l 8 0 137 [.ref 11, .int t] M o (rI (cond (decide (t ∈ L)) 1 0) M o) nX := by
  have l8 := hL.2.1
  refine ct_plain hl ok137 (by decide) (by decide) rfl rfl (by decide) (Nat.le_of_ble_eq_true rfl) (fun G hG => hG 0 _ _ _ _ _ ?_)
  have key : ∀ m j, j + m = L.length → G 5 [some (.ref 11), some (.int t), some (.int (cond (decide (t ∈ L.take j)) 1 0)), some (.int (nI j))] [] M o 0 := by
    intro m
    induction m with
    | zero =>
      intro j hj
      refine hG 5 _ _ _ _ _ ?_
      refine ⟨fun _ => ?_, fun h => absurd (by rw [hL.1]; exact nI_le (by omega) (by omega)) h⟩
      refine hG 23 _ _ _ _ _ ?_
      rw [List.take_of_length_le (by omega)]
      exact ⟨bzc _, ⟨rfl, rfl, rfl⟩, Nat.le_refl _⟩
    | succ m ih =>
      intro j hj
      have hnx := ih (j + 1) (by omega)
      rw [← nI_1] at hnx
      have yes : t ∈ L.take (j + 1) → G 17 [some (.ref 11), some (.int t), some (.int (cond (decide (t ∈ L.take j)) 1 0)), some (.int (nI j))] [] M o 0 := by
        intro h
        refine hG 17 _ _ _ _ _ ?_
        refine hG 20 _ _ _ _ _ ?_
        rw [decide_eq_true h] at hnx
        exact hnx
      refine hG 5 _ _ _ _ _ ?_
      refine ⟨fun h => absurd (by rw [← hL.1]; exact h) (nI_ge (a := j) (b := L.length) (by omega) (by omega)), fun _ => ⟨fun h => yes ((mem_take_succ (by omega) t).mpr (Or.inl (of_decide_eq_true (cond_n h)))), fun h => ⟨hL.in8 (by omega), ?_⟩⟩⟩
      rw [hL.at (by omega)]
      refine ⟨fun h2 => ?_, fun h2 => ?_⟩
      · refine hG 19 _ _ _ _ _ ?_
        have : t ∉ L.take (j + 1) := fun q => ((mem_take_succ (by omega) t).mp q).elim (of_decide_eq_false (cond_z h)) h2
        rw [decide_eq_false this] at hnx
        exact hnx
      · have : t ∈ L.take (j + 1) := (mem_take_succ (by omega) t).mpr (Or.inr h2)
        refine hG 20 _ _ _ _ _ ?_
        rw [decide_eq_true this] at hnx
        exact hnx
  exact key L.length 0 (by omega)
abbrev enZ (M : Mem) (f g : Nat → Int32) (h w : Nat) : Mem := mset (mset (mrow (mrow M 41 f) 40 g) 11 19 (nI h)) 11 18 (nI w)
theorem c_X8_ends {l : Launch} (hl : l.stackTraces = false) (M : Mem) (o : Ou) {E W H L : List Int32} (hR : MR M E W H) (hL : Lst (M 44) (M 11 23) L) (li : ∀ x ∈ L, vp_in x 8) (hp : ∀ x ∈ L, (M 45 x.toNatClampNeg = 1 ↔ x ∈ W)) (h8 : (wN W L).length + (hN W H L).length ≤ 8) (hi2 : ∀ x ∈ hN W H L, vp_in x 8) : Ct l 10 0 138 [.ref 11] M o (fun v M' o' => v = none ∧ o' = o ∧ ∃ f g a b, M' = bgM (enZ M f g (hN W H L).length (wN W L).length) (plcF (M 45) E (wN W L) (hN W H L)) (rdF (wN W L) (hN W H L) (M 11 10)) a b (prs (wN W L) (hN W H L)).length ∧ Lst f (nI (hN W H L).length) (hN W H L) ∧ Lst g (nI (wN W L).length) (wN W L) ∧ Lst a (nI (prs (wN W L) (hN W H L)).length) ((prs (wN W L) (hN W H L)).map (·.1)) ∧ Lst b (nI (prs (wN W L) (hN W H L)).length) ((prs (wN W L) (hN W H L)).map (·.2))) nX := by
  obtain ⟨hE, hW, hH, ei, wi, hi, hs⟩ := hR
  have l8 := hL.2.1
  have w8 := hW.2.1
  have hh8 := hH.2.1
  refine ct_plain hl ok138 (by decide) (by decide) rfl rfl (by decide) (Nat.le_of_ble_eq_true rfl) (fun G hG => hG 0 _ _ _ _ _ ?_)
  -- the whole
  have k70 : ∀ f, Lst f (nI (hN W H L).length) (hN W H L) → ∀ m j g, j + m = W.length → (∀ q, q < (wN (W.take j) L).length → g q = (wN (W.take j) L).getD q 0) → (∀ q, j ≤ q → q < W.length → g q = W.getD q 0) → G 70 [some (.ref 11), some (.int (nI (wN (W.take j) L).length)), some (.int (nI j))] [] (mset (mrow (mrow M 41 f) 40 g) 11 19 (nI (hN W H L).length)) o 0 := by
    intro f hf m
    induction m with
    | zero =>
      intro j g hj h1 h2
      refine hG 70 _ _ _ _ _ ?_
      refine ⟨fun _ => ?_, fun h => absurd (by rw [show mset (mrow (mrow M 41 f) 40 g) 11 19 (nI (hN W H L).length) 11 18 = nI W.length from hW.1]; exact nI_le (by omega) (by omega)) h⟩
      rw [List.take_of_length_le (by omega)] at h1 ⊢
      refine hG 93 _ _ _ _ _ ?_
      have hwl : (wN W L).length ≤ W.length := List.length_filter_le _ _
      have hg : Lst g (nI (wN W L).length) (wN W L) := ⟨rfl, by omega, h1⟩
      have hR2 : MR (enZ M f g (hN W H L).length (wN W L).length) E (wN W L) (hN W H L) := ⟨hE, hg, hf, ei, fun x hx => wi x (List.mem_filter.mp hx).1, hi2, h8⟩
      refine clP (c_X8_begins hl _ o hR2) (by decide) (by decide) (fun v M' o' q => ?_) (fun _ _ _ q => q.elim)
      obtain ⟨rfl, rfl, a, b, rfl, ha, hb⟩ := q
      exact ⟨⟨rfl, rfl, f, g, a, b, rfl, hf, hg, ha, hb⟩, Nat.le_refl _⟩
    | succ m ih =>
      intro j g hj h1 h2
      have hlt : j < W.length := by omega
      have e1 : (nI j).toNatClampNeg = j := nI_clamp (by omega)
      have hle : (wN (W.take j) L).length ≤ j := filter_take_len _ W j
      have hnx := ih (j + 1)
      rw [show wN (W.take (j + 1)) L = wN (W.take j) L ++ (if (!decide (g j ∈ L)) = true then [g j] else []) by unfold wN; rw [take_snoc W hlt, filter_snoc, ← h2 j (Nat.le_refl _) hlt]] at hnx
      refine hG 70 _ _ _ _ _ ?_
      refine ⟨fun h => absurd (by rw [show mset (mrow (mrow M 41 f) 40 g) 11 19 (nI (hN W H L).length) 11 18 = nI W.length from hW.1] at h; exact h) (nI_ge (a := j) (b := W.length) (by omega) (by omega)), fun _ => ⟨hW.in8 hlt, ?_⟩⟩
      rw [show mset (mrow (mrow M 41 f) 40 g) 11 19 (nI (hN W H L).length) 40 = g from rfl, e1]
      refine clI (c_X8_hasLost hl _ o (L := L) _ hL) (by decide) (by decide) ⟨fun h => ?_, fun h => ?_⟩
      · refine hG 82 _ _ _ _ _ ?_
        have hpf : (!decide (g j ∈ L)) = true := by rw [cond_z h]; rfl
        refine ⟨hW.in8 hlt, vp_in_nI (show (wN (W.take j) L).length < 8 by omega) (by decide), ?_⟩
        have := hnx (upd g (wN (W.take j) L).length (g j)) (by omega)
        rw [if_pos hpf, ← nI_1, List.length_append, show (wN (W.take j) L).length + [g j].length = (wN (W.take j) L).length + 1 from rfl, ← nI_1] at this
        rw [show mset (mrow (mrow M 41 f) 40 g) 11 19 (nI (hN W H L).length) 40 (nI j).toNatClampNeg = g j by rw [e1]; rfl, nI_clamp (by omega)]
        have em : mset (mset (mrow (mrow M 41 f) 40 g) 11 19 (nI (hN W H L).length)) 40 (wN (W.take j) L).length (g j) = mset (mrow (mrow M 41 f) 40 (upd g (wN (W.take j) L).length (g j))) 11 19 (nI (hN W H L).length) := by
          funext z
          by_cases h1 : z = 40
          · subst h1; rfl
          by_cases h2 : z = 11
          · subst h2; rfl
          · simp [mset, mrow, h1, h2]
        rw [em]
        refine this (fun q hq => ?_) (fun q h3 h4 => ?_)
        · by_cases he : q = (wN (W.take j) L).length
          · rw [he, pk_us, List.getD_eq_getElem?_getD, List.getElem?_append_right (Nat.le_refl _), Nat.sub_self]; rfl
          · rw [pk_un he, h1 q (by omega), List.getD_eq_getElem?_getD, List.getD_eq_getElem?_getD, List.getElem?_append_left (by omega)]
        · rw [pk_un (by omega)]
          exact h2 q (by omega) h4
      · refine hG 91 _ _ _ _ _ ?_
        have hpf : (!decide (g j ∈ L)) = false := by rw [cond_n h]; rfl
        have := hnx g (by omega)
        rw [hpf, if_neg (by decide), List.append_nil, ← nI_1] at this
        exact this h1 (fun q h3 h4 => h2 q (by omega) h4)
  -- the losers that were whole
  have k34 : ∀ c m j f, j + m = L.length → Lst f (nI (wN H L ++ (L.take j).filter (fun x => decide (x ∈ W))).length) (wN H L ++ (L.take j).filter (fun x => decide (x ∈ W))) → G 34 [some (.ref 11), some (.int c), some (.int (nI j))] [] (mset (mrow M 41 f) 11 19 (nI (wN H L ++ (L.take j).filter (fun x => decide (x ∈ W))).length)) o 0 := by
    intro c m
    induction m with
    | zero =>
      intro j f hj hf
      rw [List.take_of_length_le (by omega)] at hf ⊢
      refine hG 34 _ _ _ _ _ ?_
      refine ⟨fun _ => ?_, fun h => absurd (by rw [show mset (mrow M 41 f) 11 19 _ 11 23 = nI L.length from hL.1]; exact nI_le (by omega) (by omega)) h⟩
      refine hG 65 _ _ _ _ _ ?_
      have := k70 f hf W.length 0 (M 40) (by omega) (fun q h => absurd h (Nat.not_lt_zero _)) (fun q _ h => hW.2.2 q h)
      rw [show mrow (mrow M 41 f) 40 (M 40) = mrow M 41 f from mrow_self (mrow M 41 f) 40] at this
      exact this
    | succ m ih =>
      intro j f hj hf
      have hlt : j < L.length := by omega
      have e1 : (nI j).toNatClampNeg = j := nI_clamp (by omega)
      have hx := li _ (getD_mem hlt)
      have hpx := hp _ (getD_mem hlt)
      have hnx := ih (j + 1)
      have hlen : (wN H L ++ (L.take (j + 1)).filter (fun x => decide (x ∈ W))).length ≤ 8 := by
        refine Nat.le_trans ?_ (Nat.le_trans (Nat.le_add_left _ _) h8)
        unfold hN
        rw [List.length_append, List.length_append]
        refine Nat.add_le_add_left ?_ _
        exact (List.Sublist.filter _ (List.take_sublist _ _)).length_le
      rw [take_snoc L hlt, filter_snoc, ← List.append_assoc] at hnx hlen
      generalize wN H L ++ (L.take j).filter (fun x => decide (x ∈ W)) = hs1 at hf hnx hlen ⊢
      refine hG 34 _ _ _ _ _ ?_
      refine ⟨fun h => absurd (by rw [show mset (mrow M 41 f) 11 19 _ 11 23 = nI L.length from hL.1] at h; exact h) (nI_ge (a := j) (b := L.length) (by omega) (by omega)), fun _ => ⟨hL.in8 hlt, ?_⟩⟩
      rw [show mset (mrow M 41 f) 11 19 (nI hs1.length) 44 (nI j).toNatClampNeg = L.getD j 0 from hL.at hlt]
      refine ⟨hx, fun h => ?_, fun h => ?_⟩
      · refine hG 48 _ _ _ _ _ ?_
        have hm : decide (L.getD j 0 ∈ W) = true := decide_eq_true (hpx.mp h)
        rw [if_pos hm] at hlen hnx
        rw [List.length_append] at hlen
        have hlen : hs1.length + 1 ≤ 8 := hlen
        refine ⟨hL.in8 hlt, vp_in_nI (show hs1.length < 8 by omega) (by decide), ?_⟩
        rw [show mset (mrow M 41 f) 11 19 (nI hs1.length) 44 (nI j).toNatClampNeg = L.getD j 0 from hL.at hlt]
        have h1 := hf.app (by omega) (L.getD j 0)
        have el : (hs1 ++ [L.getD j 0]).length = hs1.length + 1 := by rw [List.length_append]; rfl
        rw [← el] at h1
        have := hnx _ (by omega) h1
        rw [← nI_1, el] at this
        have em : mset (mset (mset (mrow M 41 f) 11 19 (nI hs1.length)) 41 (mset (mrow M 41 f) 11 19 (nI hs1.length) 11 19).toNatClampNeg (L.getD j 0)) 11 19 (mset (mset (mrow M 41 f) 11 19 (nI hs1.length)) 41 (mset (mrow M 41 f) 11 19 (nI hs1.length) 11 19).toNatClampNeg (L.getD j 0) 11 19 + 1) = mset (mrow M 41 (upd f hs1.length (L.getD j 0))) 11 19 (nI (hs1.length + 1)) := by
          have e2 : (mset (mrow M 41 f) 11 19 (nI hs1.length) 11 19).toNatClampNeg = hs1.length := nI_clamp (by omega)
          rw [e2]
          have e3 : mset (mset (mrow M 41 f) 11 19 (nI hs1.length)) 41 hs1.length (L.getD j 0) 11 19 = nI hs1.length := rfl
          rw [e3, nI_1]
          funext z
          by_cases h1 : z = 41
          · subst h1; rfl
          by_cases h2 : z = 11
          · subst h2; exact congrFun (mset_mset M 11 19 _ _) 11
          · simp [mset, mrow, h1, h2]
        rw [← em] at this
        exact this
      · refine hG 63 _ _ _ _ _ ?_
        have hm : ¬ decide (L.getD j 0 ∈ W) = true := by rw [decide_eq_true_eq]; exact fun q => h (hpx.mpr q)
        have := hnx f (by omega)
        rw [if_neg hm, List.append_nil, ← nI_1] at this
        exact this hf
  -- the hurt
  have k5 : ∀ m j g, j + m = H.length → (∀ q, q < (wN (H.take j) L).length → g q = (wN (H.take j) L).getD q 0) → (∀ q, j ≤ q → q < H.length → g q = H.getD q 0) → G 5 [some (.ref 11), some (.int (nI (wN (H.take j) L).length)), some (.int (nI j))] [] (mrow M 41 g) o 0 := by
    intro m
    induction m with
    | zero =>
      intro j g hj h1 h2
      refine hG 5 _ _ _ _ _ ?_
      refine ⟨fun _ => ?_, fun h => absurd (by rw [show mrow M 41 g 11 19 = nI H.length from hH.1]; exact nI_le (by omega) (by omega)) h⟩
      rw [List.take_of_length_le (by omega)] at h1 ⊢
      refine hG 28 _ _ _ _ _ ?_
      have hwl : (wN H L).length ≤ H.length := List.length_filter_le _ _
      have := k34 (nI (wN H L).length) L.length 0 g (by omega)
      rw [List.take_zero, List.filter_nil, List.append_nil] at this
      exact this ⟨rfl, by omega, h1⟩
    | succ m ih =>
      intro j g hj h1 h2
      have hlt : j < H.length := by omega
      have e1 : (nI j).toNatClampNeg = j := nI_clamp (by omega)
      have hle : (wN (H.take j) L).length ≤ j := filter_take_len _ H j
      have hnx := ih (j + 1)
      rw [show wN (H.take (j + 1)) L = wN (H.take j) L ++ (if (!decide (g j ∈ L)) = true then [g j] else []) by unfold wN; rw [take_snoc H hlt, filter_snoc, ← h2 j (Nat.le_refl _) hlt]] at hnx
      refine hG 5 _ _ _ _ _ ?_
      refine ⟨fun h => absurd (by rw [show mrow M 41 g 11 19 = nI H.length from hH.1] at h; exact h) (nI_ge (a := j) (b := H.length) (by omega) (by omega)), fun _ => ⟨hH.in8 hlt, ?_⟩⟩
      rw [show mrow M 41 g 41 = g from rfl, e1]
      refine clI (c_X8_hasLost hl _ o (L := L) _ hL) (by decide) (by decide) ⟨fun h => ?_, fun h => ?_⟩
      · refine hG 17 _ _ _ _ _ ?_
        have hpf : (!decide (g j ∈ L)) = true := by rw [cond_z h]; rfl
        refine ⟨hH.in8 hlt, vp_in_nI (show (wN (H.take j) L).length < 8 by omega) (by decide), ?_⟩
        have := hnx (upd g (wN (H.take j) L).length (g j)) (by omega)
        rw [if_pos hpf, ← nI_1, List.length_append, show (wN (H.take j) L).length + [g j].length = (wN (H.take j) L).length + 1 from rfl, ← nI_1] at this
        rw [show mrow M 41 g 41 (nI j).toNatClampNeg = g j by rw [e1]; rfl, nI_clamp (by omega), mset_mrow]
        refine this (fun q hq => ?_) (fun q h3 h4 => ?_)
        · by_cases he : q = (wN (H.take j) L).length
          · rw [he, pk_us, List.getD_eq_getElem?_getD, List.getElem?_append_right (Nat.le_refl _), Nat.sub_self]; rfl
          · rw [pk_un he, h1 q (by omega), List.getD_eq_getElem?_getD, List.getD_eq_getElem?_getD, List.getElem?_append_left (by omega)]
        · rw [pk_un (by omega)]
          exact h2 q (by omega) h4
      · refine hG 26 _ _ _ _ _ ?_
        have hpf : (!decide (g j ∈ L)) = false := by rw [cond_n h]; rfl
        have := hnx g (by omega)
        rw [hpf, if_neg (by decide), List.append_nil, ← nI_1] at this
        exact this h1 (fun q h3 h4 => h2 q (by omega) h4)
  have := k5 H.length 0 (M 41) (by omega) (fun q h => absurd h (Nat.not_lt_zero _)) (fun q _ h => hH.2.2 q h)
  rw [mrow_self] at this
  exact this
