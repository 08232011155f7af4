/-! CONTRACTS: the reference's cup. -/
def pcF (f : Nat → Int32) (c : Int32) (xs : List Int32) : Nat → Int32 := fun t => if t < 8 ∧ nI t ∈ xs then c else f t
theorem pcF_nil (f : Nat → Int32) (c : Int32) : pcF f c [] = f := by
  funext t; unfold pcF; rw [if_neg (fun q => absurd q.2 (List.not_mem_nil))]
theorem pcF_snoc (f : Nat → Int32) (c : Int32) (xs : List Int32) {x : Int32} (hx : vp_in x 8) : upd (pcF f c xs) x.toNatClampNeg c = pcF f c (xs ++ [x]) := by
  obtain ⟨k, hk, rfl⟩ := vp_in_of hx (by decide)
  rw [nI_clamp (by omega)]
  funext t
  unfold upd pcF
  by_cases h : t = k
  · rw [if_pos h, if_pos ⟨by omega, by rw [h]; exact List.mem_append_right _ (List.mem_singleton.mpr rfl)⟩]
  · rw [if_neg h]
    by_cases h2 : t < 8 ∧ nI t ∈ xs
    · rw [if_pos h2, if_pos ⟨h2.1, List.mem_append_left _ h2.2⟩]
    · rw [if_neg h2, if_neg (fun q => ?_)]
      rcases List.mem_append.mp q.2 with q2 | q2
      · exact h2 ⟨q.1, q2⟩
      · exact h (nI_inj (by omega) (by omega) (List.mem_singleton.mp q2))
def plcF (f : Nat → Int32) (E W H : List Int32) : Nat → Int32 := pcF (pcF (pcF f 3 E) (if W.length + H.length = 1 then 4 else 1) W) (if W.length + H.length = 1 then 4 else 2) H
def pr2 (W : List Int32) (n : Nat) : List (Int32 × Int32) := (List.range n).map (fun m => (W.getD (2 * m) 0, W.getD (2 * m + 1) 0))
theorem pr2_succ (W : List Int32) (n : Nat) : pr2 W (n + 1) = pr2 W n ++ [(W.getD (2 * n) 0, W.getD (2 * n + 1) 0)] := by
  unfold pr2; rw [List.range_succ, List.map_append]; rfl
theorem pr2_len (W : List Int32) (n : Nat) : (pr2 W n).length = n := by unfold pr2; rw [List.length_map, List.length_range]
def prs (W H : List Int32) : List (Int32 × Int32) := if W.length = 1 ∧ H.length = 1 then [(W.getD 0 0, H.getD 0 0)] else pr2 W (W.length / 2) ++ pr2 H (H.length / 2)
theorem c_X8_pairs {l : Launch} (hl : l.stackTraces = false) (M : Mem) (o : Ou) {n : Nat} (p q : Int32) (hf : M 11 23 = nI n) (hn : n < 8) : Ct l 8 0 136 [.ref 11, .int p, .int q] M o (rV (mset (mset (mset M 42 n p) 43 n q) 11 23 (nI (n + 1))) o) nX := by
  refine ct_plain hl ok136 (by decide) (by decide) rfl rfl (by decide) (Nat.le_of_ble_eq_true rfl) (fun G hG => hG 0 _ _ _ _ _ ?_)
  have e1 : (M 11 23).toNatClampNeg = n := by rw [hf, nI_clamp (by omega)]
  have e2 : vp_in (M 11 23) 8 := by rw [hf]; exact vp_in_nI hn (by decide)
  refine ⟨e2, e2, ⟨rfl, ?_, rfl⟩, Nat.le_refl _⟩
  show mset (mset (mset M 42 (M 11 23).toNatClampNeg p) 43 (M 11 23).toNatClampNeg q) _ _ (M 11 23 + 1) = _
  rw [e1, hf, nI_1]
theorem Lst.at {f : Nat → Int32} {n : Int32} {xs : List Int32} (h : Lst f n xs) {j : Nat} (hj : j < xs.length) : f (nI j).toNatClampNeg = xs.getD j 0 := by
  rw [nI_clamp (by have := h.2.1; omega)]; exact h.2.2 j hj
theorem Lst.in8 {f : Nat → Int32} {n : Int32} {xs : List Int32} (h : Lst f n xs) {j : Nat} (hj : j < xs.length) : vp_in (nI j) 8 := vp_in_nI (by have := h.2.1; omega) (by decide)
theorem getD_mem {xs : List Int32} {j : Nat} (h : j < xs.length) : xs.getD j 0 ∈ xs := by
  rw [List.getD_eq_getElem?_getD, List.getElem?_eq_getElem h]; exact List.getElem_mem h
abbrev bgM (M : Mem) (p : Nat → Int32) (r : Int32) (a b : Nat → Int32) (n : Nat) : Mem := mset (mrow (mrow (mset (mrow (mset (mset M 11 23 0) 11 24 0) 45 p) 11 10 r) 42 a) 43 b) 11 23 (nI n)
/-- the three rows of a cup in the reference's memory -/
def MR (M : Mem) (E W H : List Int32) : Prop := Lst (M 38) (M 11 13) E ∧ Lst (M 40) (M 11 18) W ∧ Lst (M 41) (M 11 19) H ∧ (∀ x ∈ E, vp_in x 8) ∧ (∀ x ∈ W, vp_in x 8) ∧ (∀ x ∈ H, vp_in x 8) ∧ W.length + H.length ≤ 8
def rdF (W H : List Int32) (r : Int32) : Int32 := if W.length + H.length = 1 then r else r + 1
abbrev bZ (M0 : Mem) (p : Nat → Int32) (r : Int32) (a b : Nat → Int32) (n : Nat) : Mem := mset (mrow (mrow (mset (mrow M0 45 p) 11 10 r) 42 a) 43 b) 11 23 (nI n)
theorem c_X8_begins {l : Launch} (hl : l.stackTraces = false) (M : Mem) (o : Ou) {E W H : List Int32} (hR : MR M E W H) : Ct l 9 0 135 [.ref 11] M o (fun v M' o' => v = none ∧ o' = o ∧ ∃ a b, M' = bgM M (plcF (M 45) E W H) (rdF W H (M 11 10)) a b (prs W H).length ∧ Lst a (nI (prs W H).length) ((prs W H).map (·.1)) ∧ Lst b (nI (prs W H).length) ((prs W H).map (·.2))) nX := by
  obtain ⟨hE, hW, hH, e8, w8, h8, hs⟩ := hR
  refine ct_plain hl ok135 (by decide) (by decide) rfl rfl (by decide) (Nat.le_of_ble_eq_true rfl) (fun G hG => hG 0 _ _ _ _ _ ?_)
  generalize hM0 : mset (mset M 11 23 0) 11 24 0 = M0
  have hE' : Lst (M0 38) (M0 11 13) E := by rw [← hM0]; exact hE
  have hW' : Lst (M0 40) (M0 11 18) W := by rw [← hM0]; exact hW
  have hH' : Lst (M0 41) (M0 11 19) H := by rw [← hM0]; exact hH
  have h23 : M0 11 23 = 0 := by rw [← hM0]; rfl
  have em : ∀ (p : Nat → Int32) (r : Int32) a b n (x y : Int32), mset (mset (mset (bZ M0 p r a b n) 42 n x) 43 n y) 11 23 (nI (n + 1)) = bZ M0 p r (upd a n x) (upd b n y) (n + 1) := by
    intro p r a b n x y
    funext z
    by_cases h1 : z = 42
    · subst h1; rfl
    by_cases h2 : z = 43
    · subst h2; rfl
    by_cases h3 : z = 11
    · subst h3; exact congrFun (mset_mset (mset M0 11 10 r) 11 23 _ _) 11
    · simp [bZ, mset, mrow, h1, h2, h3]
  have h10 : M0 11 10 = M 11 10 := by rw [← hM0]; rfl
  have h45 : M0 45 = M 45 := by rw [← hM0]; rfl
  rw [← h10, ← h45] at hG
  -- the pairs of the hurt
  have k134 : ∀ (p : Nat → Int32) (r : Int32), p = plcF (M0 45) E W H → r = rdF W H (M0 11 10) → ¬ (W.length = 1 ∧ H.length = 1) → ∀ m j a b, j + m = H.length / 2 → Lst a (nI (W.length / 2 + j)) ((pr2 W (W.length / 2) ++ pr2 H j).map (·.1)) → Lst b (nI (W.length / 2 + j)) ((pr2 W (W.length / 2) ++ pr2 H j).map (·.2)) → G 134 [some (.ref 11), some (.int (nI (2 * j)))] [] (bZ M0 p r a b (W.length / 2 + j)) o 0 := by
    intro p r hp hr hn m
    induction m with
    | zero =>
      intro j a b hj ha hb
      refine hG 134 _ _ _ _ _ ?_
      refine ⟨fun _ => ?_, fun h => absurd (by rw [show bZ M0 p r a b (W.length / 2 + j) 11 19 = nI H.length from hH'.1, nI_1]; exact nI_le (by omega) (by omega)) h⟩
      refine hG 154 _ _ _ _ _ ?_
      have hp2 : prs W H = pr2 W (W.length / 2) ++ pr2 H j := by unfold prs; rw [if_neg hn, show j = H.length / 2 by omega]
      have hlen : (prs W H).length = W.length / 2 + j := by rw [hp2, List.length_append, pr2_len, pr2_len]
      refine ⟨⟨rfl, rfl, a, b, ?_, ?_, ?_⟩, Nat.le_refl _⟩
      · rw [hlen, hp, hr, ← hM0]
      · rw [hlen, hp2]; exact ha
      · rw [hlen, hp2]; exact hb
    | succ m ih =>
      intro j a b hj ha hb
      have h2 := hH'.2.1
      refine hG 134 _ _ _ _ _ ?_
      refine ⟨fun h => absurd (by rw [show bZ M0 p r a b (W.length / 2 + j) 11 19 = nI H.length from hH'.1, nI_1] at h; exact h) (nI_ge (a := 2 * j + 1) (b := H.length) (by omega) (by omega)), fun _ => ⟨hH'.in8 (by omega), by rw [nI_1]; exact hH'.in8 (by omega), ?_⟩⟩
      rw [show bZ M0 p r a b (W.length / 2 + j) 41 (nI (2 * j)).toNatClampNeg = H.getD (2 * j) 0 from hH'.at (by omega), nI_1, show bZ M0 p r a b (W.length / 2 + j) 41 (nI (2 * j + 1)).toNatClampNeg = H.getD (2 * j + 1) 0 from hH'.at (by omega)]
      refine clV (c_X8_pairs hl _ o (n := W.length / 2 + j) _ _ rfl (by omega)) (by decide) (by decide) ?_
      have hpr : pr2 W (W.length / 2) ++ pr2 H (j + 1) = (pr2 W (W.length / 2) ++ pr2 H j) ++ [(H.getD (2 * j) 0, H.getD (2 * j + 1) 0)] := by rw [pr2_succ, List.append_assoc]
      have hl1 : ((pr2 W (W.length / 2) ++ pr2 H j).map (·.1)).length = W.length / 2 + j := by rw [List.length_map, List.length_append, pr2_len, pr2_len]
      have hl2 : ((pr2 W (W.length / 2) ++ pr2 H j).map (·.2)).length = W.length / 2 + j := by rw [List.length_map, List.length_append, pr2_len, pr2_len]
      have ha' := ha.app (by omega) (H.getD (2 * j) 0)
      have hb' := hb.app (by omega) (H.getD (2 * j + 1) 0)
      rw [hl1] at ha'
      rw [hl2] at hb'
      have hnx := ih (j + 1) _ _ (by omega) (by rw [hpr, List.map_append]; exact ha') (by rw [hpr, List.map_append]; exact hb')
      rw [show 2 * (j + 1) = 2 * j + 2 by omega, ← nI_add (2 * j) 2] at hnx
      rw [em]
      exact hnx
  -- the pairs of the whole
  have k111 : ∀ (p : Nat → Int32) (r : Int32), p = plcF (M0 45) E W H → r = rdF W H (M0 11 10) → ¬ (W.length = 1 ∧ H.length = 1) → ∀ m j a b, j + m = W.length / 2 → Lst a (nI j) ((pr2 W j).map (·.1)) → Lst b (nI j) ((pr2 W j).map (·.2)) → G 111 [some (.ref 11), some (.int (nI (2 * j)))] [] (bZ M0 p r a b j) o 0 := by
    intro p r hp hr hn m
    have h2 := hW'.2.1
    induction m with
    | zero =>
      intro j a b hj ha hb
      refine hG 111 _ _ _ _ _ ?_
      refine ⟨fun _ => ?_, fun h => absurd (by rw [show bZ M0 p r a b j 11 18 = nI W.length from hW'.1, nI_1]; exact nI_le (by omega) (by omega)) h⟩
      refine hG 131 _ _ _ _ _ ?_
      have := k134 p r hp hr hn (H.length / 2) 0 a b (by omega)
      rw [show pr2 H 0 = [] from rfl, List.append_nil, Nat.add_zero, ← show j = W.length / 2 by omega] at this
      exact this ha hb
    | succ m ih =>
      intro j a b hj ha hb
      refine hG 111 _ _ _ _ _ ?_
      refine ⟨fun h => absurd (by rw [show bZ M0 p r a b j 11 18 = nI W.length from hW'.1, nI_1] at h; exact h) (nI_ge (a := 2 * j + 1) (b := W.length) (by omega) (by omega)), fun _ => ⟨hW'.in8 (by omega), by rw [nI_1]; exact hW'.in8 (by omega), ?_⟩⟩
      rw [show bZ M0 p r a b j 40 (nI (2 * j)).toNatClampNeg = W.getD (2 * j) 0 from hW'.at (by omega), nI_1, show bZ M0 p r a b j 40 (nI (2 * j + 1)).toNatClampNeg = W.getD (2 * j + 1) 0 from hW'.at (by omega)]
      refine clV (c_X8_pairs hl _ o (n := j) _ _ rfl (by omega)) (by decide) (by decide) ?_
      have hl1 : ((pr2 W j).map (·.1)).length = j := by rw [List.length_map, pr2_len]
      have hl2 : ((pr2 W j).map (·.2)).length = j := by rw [List.length_map, pr2_len]
      have ha' := ha.app (by omega) (W.getD (2 * j) 0)
      have hb' := hb.app (by omega) (W.getD (2 * j + 1) 0)
      rw [hl1] at ha'
      rw [hl2] at hb'
      have hnx := ih (j + 1) _ _ (by omega) (by rw [pr2_succ, List.map_append]; exact ha') (by rw [pr2_succ, List.map_append]; exact hb')
      rw [show 2 * (j + 1) = 2 * j + 2 by omega, ← nI_add (2 * j) 2] at hnx
      rw [em]
      exact hnx
  have bz0' : ∀ p r, bZ M0 p r (M0 42) (M0 43) 0 = mset (mrow M0 45 p) 11 10 r := by
    intro p r
    funext z
    by_cases h1 : z = 42
    · subst h1; rfl
    by_cases h2 : z = 43
    · subst h2; rfl
    by_cases h3 : z = 11
    · subst h3
      have : mset (mset M0 11 10 r) 11 23 0 = mset M0 11 10 r := by
        have := mset_self (mset M0 11 10 r) 11 23
        rw [show mset M0 11 10 r 11 23 = 0 from h23] at this
        exact this
      exact congrFun this 11
    · simp [bZ, mset, mrow, h1, h2, h3]
  have nilL : ∀ f : Nat → Int32, Lst f (nI 0) [] := fun f => Lst.nil
  have k75 : ∀ p, p = plcF (M0 45) E W H → G 75 [some (.ref 11), some (.int (nI H.length))] [] (mrow M0 45 p) o 0 := by
    intro p hp
    have w9 := hW'.2.1
    have h9 := hH'.2.1
    have e1 : mrow M0 45 p 11 18 + mrow M0 45 p 11 19 = nI (W.length + H.length) := by
      rw [show mrow M0 45 p 11 18 = nI W.length from hW'.1, show mrow M0 45 p 11 19 = nI H.length from hH'.1, nI_add]
    refine hG 75 _ _ _ _ _ ?_
    refine ⟨fun h => ?_, fun h => ?_⟩
    · refine hG 83 _ _ _ _ _ ?_
      have h : ¬ W.length + H.length = 1 := fun q => h (by rw [e1, q]; rfl)
      have hr : mrow M0 45 p 11 10 + 1 = rdF W H (M0 11 10) := by unfold rdF; rw [if_neg h]; rfl
      rw [show mrow M0 45 p 11 10 = M0 11 10 from rfl] at hr
      have rest : ¬ (W.length = 1 ∧ H.length = 1) → G 108 [some (.ref 11), some (.int (nI H.length))] [] (mset (mrow M0 45 p) 11 10 (M0 11 10 + 1)) o 0 := by
        intro hn
        refine hG 108 _ _ _ _ _ ?_
        have := k111 p _ hp hr hn (W.length / 2) 0 (M0 42) (M0 43) (by omega) (nilL _) (nilL _)
        rw [bz0'] at this
        exact this
      refine ⟨fun h2 => rest (fun q => h2 (by rw [show (mset (mrow M0 45 p) 11 10 (mrow M0 45 p 11 10 + 1)) 11 18 = nI W.length from hW'.1, q.1]; rfl)), fun h2 => ⟨fun h3 => rest (fun q => h3 (by rw [show (mset (mrow M0 45 p) 11 10 (mrow M0 45 p 11 10 + 1)) 11 19 = nI H.length from hH'.1, q.2]; rfl)), fun h3 => ?_⟩⟩
      rw [show (mset (mrow M0 45 p) 11 10 (mrow M0 45 p 11 10 + 1)) 11 18 = nI W.length from hW'.1] at h2
      rw [show (mset (mrow M0 45 p) 11 10 (mrow M0 45 p 11 10 + 1)) 11 19 = nI H.length from hH'.1] at h3
      have h2 : W.length = 1 := nI_inj (by omega) (by decide) h2
      have h3 : H.length = 1 := nI_inj (by omega) (by decide) h3
      refine ⟨vp_in_nI (n := 0) (N := 8) (by decide) (by decide), vp_in_nI (n := 0) (N := 8) (by decide) (by decide), ?_⟩
      have hp2 : prs W H = [(W.getD 0 0, H.getD 0 0)] := by unfold prs; rw [if_pos ⟨h2, h3⟩]
      have e4 : mset (mrow M0 45 p) 11 10 (mrow M0 45 p 11 10 + 1) 40 (0 : Int32).toNatClampNeg = W.getD 0 0 := hW'.at (j := 0) (by omega)
      have e5 : mset (mrow M0 45 p) 11 10 (mrow M0 45 p 11 10 + 1) 41 (0 : Int32).toNatClampNeg = H.getD 0 0 := hH'.at (j := 0) (by omega)
      rw [e4, e5]
      have e6 : mset (mrow M0 45 p) 11 10 (mrow M0 45 p 11 10 + 1) = bZ M0 p (M0 11 10 + 1) (M0 42) (M0 43) 0 := (bz0' _ _).symm
      rw [e6]
      refine clV (c_X8_pairs hl _ o (n := 0) _ _ rfl (by decide)) (by decide) (by decide) ?_
      refine ⟨⟨rfl, rfl, upd (M0 42) 0 (W.getD 0 0), upd (M0 43) 0 (H.getD 0 0), by rw [em, hp2, hp, hr, ← hM0]; rfl, ?_, ?_⟩, Nat.le_refl _⟩
      · rw [hp2]; exact (nilL (M0 42)).app (by decide) (W.getD 0 0)
      · rw [hp2]; exact (nilL (M0 43)).app (by decide) (H.getD 0 0)
    · have h : W.length + H.length = 1 := by rw [e1] at h; exact nI_inj (by omega) (by decide) h
      have hn : ¬ (W.length = 1 ∧ H.length = 1) := by omega
      have hp2 : prs W H = [] := by
        unfold prs
        rw [if_neg hn, show W.length / 2 = 0 by omega, show H.length / 2 = 0 by omega]; rfl
      refine ⟨⟨rfl, rfl, M0 42, M0 43, ?_, ?_, ?_⟩, Nat.le_refl _⟩
      · have := bz0' p (M0 11 10)
        have e7 : mset (mrow M0 45 p) 11 10 (M0 11 10) = mrow M0 45 p := mset_self (mrow M0 45 p) 11 10
        rw [e7] at this
        rw [← this, hp2, show rdF W H (M0 11 10) = M0 11 10 by unfold rdF; rw [if_pos h], hp, ← hM0]
        rfl
      · rw [hp2]; exact nilL _
      · rw [hp2]; exact nilL _
  -- the places
  have k52 : ∀ m j p, j + m = H.length → p = pcF (pcF (pcF (M0 45) 3 E) (if W.length + H.length = 1 then 4 else 1) W) (if W.length + H.length = 1 then 4 else 2) (H.take j) → G 52 [some (.ref 11), some (.int (nI j))] [] (mrow M0 45 p) o 0 := by
    intro m
    have h9 := hH'.2.1
    induction m with
    | zero =>
      intro j p hj hp
      refine hG 52 _ _ _ _ _ ?_
      refine ⟨fun _ => ?_, fun h => absurd (by rw [show mrow M0 45 p 11 19 = nI H.length from hH'.1]; exact nI_le (by omega) (by omega)) h⟩
      rw [List.take_of_length_le (by omega)] at hp
      rw [show j = H.length by omega]
      exact k75 p hp
    | succ m ih =>
      intro j p hj hp
      have hx := h8 _ (getD_mem (xs := H) (j := j) (by omega))
      have e1 : mrow M0 45 p 11 18 + mrow M0 45 p 11 19 = nI (W.length + H.length) := by
        rw [show mrow M0 45 p 11 18 = nI W.length from hW'.1, show mrow M0 45 p 11 19 = nI H.length from hH'.1, nI_add]
      have w9 := hW'.2.1
      have e2 : mrow M0 45 p 41 (nI j).toNatClampNeg = H.getD j 0 := hH'.at (by omega)
      refine hG 52 _ _ _ _ _ ?_
      refine ⟨fun h => absurd (by rw [show mrow M0 45 p 11 19 = nI H.length from hH'.1] at h; exact h) (nI_ge (a := j) (b := H.length) (by omega) (by omega)), fun _ => ⟨hH'.in8 (by omega), ?_⟩⟩
      rw [e2]
      refine ⟨fun h => ?_, fun h => ?_⟩
      · refine hG 71 _ _ _ _ _ ?_
        have h : ¬ W.length + H.length = 1 := fun q => h (by rw [e1, q]; rfl)
        refine ⟨hx, ?_⟩
        have hnx := ih (j + 1) (upd p (H.getD j 0).toNatClampNeg 2) (by omega) (by rw [take_snoc H (by omega), ← pcF_snoc _ _ _ hx, hp, if_neg h, if_neg h])
        rw [← nI_1] at hnx
        rw [mset_mrow]
        exact hnx
      · refine hG 72 _ _ _ _ _ ?_
        have h : W.length + H.length = 1 := by rw [e1] at h; exact nI_inj (by omega) (by decide) h
        refine ⟨hx, ?_⟩
        have hnx := ih (j + 1) (upd p (H.getD j 0).toNatClampNeg 4) (by omega) (by rw [take_snoc H (by omega), ← pcF_snoc _ _ _ hx, hp, if_pos h, if_pos h])
        rw [← nI_1] at hnx
        rw [mset_mrow]
        exact hnx
  have k26 : ∀ m j p, j + m = W.length → p = pcF (pcF (M0 45) 3 E) (if W.length + H.length = 1 then 4 else 1) (W.take j) → G 26 [some (.ref 11), some (.int (nI j))] [] (mrow M0 45 p) o 0 := by
    intro m
    have w9 := hW'.2.1
    induction m with
    | zero =>
      intro j p hj hp
      refine hG 26 _ _ _ _ _ ?_
      refine ⟨fun _ => ?_, fun h => absurd (by rw [show mrow M0 45 p 11 18 = nI W.length from hW'.1]; exact nI_le (by omega) (by omega)) h⟩
      rw [List.take_of_length_le (by omega)] at hp
      refine hG 49 _ _ _ _ _ ?_
      exact k52 H.length 0 p (by omega) (by rw [List.take_zero, pcF_nil]; exact hp)
    | succ m ih =>
      intro j p hj hp
      have hx := w8 _ (getD_mem (xs := W) (j := j) (by omega))
      have e1 : mrow M0 45 p 11 18 + mrow M0 45 p 11 19 = nI (W.length + H.length) := by
        rw [show mrow M0 45 p 11 18 = nI W.length from hW'.1, show mrow M0 45 p 11 19 = nI H.length from hH'.1, nI_add]
      have h9 := hH'.2.1
      have e2 : mrow M0 45 p 40 (nI j).toNatClampNeg = W.getD j 0 := hW'.at (by omega)
      refine hG 26 _ _ _ _ _ ?_
      refine ⟨fun h => absurd (by rw [show mrow M0 45 p 11 18 = nI W.length from hW'.1] at h; exact h) (nI_ge (a := j) (b := W.length) (by omega) (by omega)), fun _ => ⟨hW'.in8 (by omega), ?_⟩⟩
      rw [e2]
      refine ⟨fun h => ?_, fun h => ?_⟩
      · refine hG 45 _ _ _ _ _ ?_
        have h : ¬ W.length + H.length = 1 := fun q => h (by rw [e1, q]; rfl)
        refine ⟨hx, ?_⟩
        have hnx := ih (j + 1) (upd p (W.getD j 0).toNatClampNeg 1) (by omega) (by rw [take_snoc W (by omega), ← pcF_snoc _ _ _ hx, hp, if_neg h])
        rw [← nI_1] at hnx
        rw [mset_mrow]
        exact hnx
      · refine hG 46 _ _ _ _ _ ?_
        have h : W.length + H.length = 1 := by rw [e1] at h; exact nI_inj (by omega) (by decide) h
        refine ⟨hx, ?_⟩
        have hnx := ih (j + 1) (upd p (W.getD j 0).toNatClampNeg 4) (by omega) (by rw [take_snoc W (by omega), ← pcF_snoc _ _ _ hx, hp, if_pos h])
        rw [← nI_1] at hnx
        rw [mset_mrow]
        exact hnx
  have k9 : ∀ m j p, j + m = E.length → p = pcF (M0 45) 3 (E.take j) → G 9 [some (.ref 11), some (.int (nI j))] [] (mrow M0 45 p) o 0 := by
    intro m
    have e9 := hE'.2.1
    induction m with
    | zero =>
      intro j p hj hp
      refine hG 9 _ _ _ _ _ ?_
      refine ⟨fun _ => ?_, fun h => absurd (by rw [show mrow M0 45 p 11 13 = nI E.length from hE'.1]; exact nI_le (by omega) (by omega)) h⟩
      rw [List.take_of_length_le (by omega)] at hp
      refine hG 23 _ _ _ _ _ ?_
      exact k26 W.length 0 p (by omega) (by rw [List.take_zero, pcF_nil]; exact hp)
    | succ m ih =>
      intro j p hj hp
      have hx := e8 _ (getD_mem (xs := E) (j := j) (by omega))
      have e2 : mrow M0 45 p 38 (nI j).toNatClampNeg = E.getD j 0 := hE'.at (by omega)
      refine hG 9 _ _ _ _ _ ?_
      refine ⟨fun h => absurd (by rw [show mrow M0 45 p 11 13 = nI E.length from hE'.1] at h; exact h) (nI_ge (a := j) (b := E.length) (by omega) (by omega)), fun _ => ⟨hE'.in8 (by omega), ?_⟩⟩
      rw [e2]
      refine ⟨hx, ?_⟩
      have hnx := ih (j + 1) (upd p (E.getD j 0).toNatClampNeg 3) (by omega) (by rw [take_snoc E (by omega), ← pcF_snoc _ _ _ hx, hp])
      rw [← nI_1] at hnx
      rw [mset_mrow]
      exact hnx
  have := k9 E.length 0 (M0 45) (by omega) (by rw [List.take_zero, pcF_nil])
  rw [mrow_self] at this
  rw [← hM0] at this
  exact this
