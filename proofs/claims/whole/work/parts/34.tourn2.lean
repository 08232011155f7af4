/-! CONTRACTS: the kind's cup, the draw and the round's end. -/
def rmN (v : Int32) (d : Nat) : Nat := (rmF v (nI d)).toNatClampNeg
theorem rmN_eq (v : Int32) {d : Nat} (h0 : 0 < d) (hd : d < 2 ^ 31) : rmF v (nI d) = nI (rmN v d) ∧ rmN v d < d := by
  obtain ⟨r, hr, he⟩ := rmF_n v h0 hd
  unfold rmN
  rw [he, nI_clamp (by omega)]
  exact ⟨rfl, hr⟩
/-- from place i down to 1, with the told numbers from u on -/
def shF (v : Nat → Int32) : Nat → Nat → List Int32 → List Int32
  | 0, _, xs => xs
  | i + 1, u, xs => shF v i (u + 1) (swp xs (i + 1) (rmN (v u) (i + 2)))
theorem shF_len (v : Nat → Int32) : ∀ i u xs, (shF v i u xs).length = xs.length := by
  intro i
  induction i with
  | zero => intro u xs; rfl
  | succ i ih => intro u xs; unfold shF; rw [ih, swp_len]
theorem c_X6_shuffle {l : Launch} (hl : l.stackTraces = false) (M : Mem) (o : Ou) {E : List Int32} {n : Nat} (hE : rl M 4 E) (hW : M 5 1 = 0) (h2 : 2 ≤ E.length) (hf : M 2 1 = nI n) (hn : n ≤ 20) (hen : E.length - 1 ≤ n) : Ct l 9 0 77 [.ref 3, .ref 2] M o (fun v M' o' => v = none ∧ o' = o ∧ ∃ f, M' = mset (mset (mset (mrow M 17 f) 5 1 (nI E.length)) 3 5 1) 3 9 1 ∧ Lst f (nI E.length) (shF (M 15) (E.length - 1) 0 E)) nX := by
  have e8 := hE.2.1
  refine ct_plain hl ok77 (by decide) (by decide) rfl rfl (by decide) (Nat.le_of_ble_eq_true rfl) (fun G hG => hG 0 _ _ _ _ _ ?_)
  -- the second loop
  have key2 : ∀ i u f xs, i + u + 1 = E.length → Lst f (nI E.length) xs → shF (M 15) (E.length - 1) 0 E = shF (M 15) i u xs → G 26 [some (.ref 3), some (.ref 2), some (.int (nI u)), some (.int (nI i))] [] (mset (mrow M 17 f) 5 1 (nI E.length)) o 0 := by
    intro i
    induction i with
    | zero =>
      intro u f xs hu hx he
      refine hG 26 _ _ _ _ _ ?_
      refine ⟨fun _ => ?_, fun h => absurd (by decide) h⟩
      refine hG 42 _ _ _ _ _ ?_
      exact ⟨bz1, ⟨rfl, rfl, f, rfl, by rw [he]; exact hx⟩, Nat.le_refl _⟩
    | succ i ih =>
      intro u f xs hu hx he
      have hxl : xs.length = E.length := (nI_inj (by omega) (by have := hx.2.1; omega) hx.1).symm
      refine hG 26 _ _ _ _ _ ?_
      refine ⟨fun h => absurd h (nI_nlt (a := i + 1) (b := 1) (by omega) (by omega)), fun _ => ?_⟩
      have hr := rmN_eq (M 15 u) (d := i + 2) (by omega) (by omega)
      have hc := c_X1_remainder hl (mset (mrow M 17 f) 5 1 (nI E.length)) o (n := n) (p := u) (d := i + 2) hf hn (by omega) (by omega) (by omega)
      have hc : Ct l 8 0 20 [.ref 2, .int (nI u), .int (nI (i + 2))] (mset (mrow M 17 f) 5 1 (nI E.length)) o (rI (rmF (M 15 u) (nI (i + 2))) (mset (mrow M 17 f) 5 1 (nI E.length)) o) nX := hc
      rw [show i + 2 = (i + 1) + 1 from rfl, ← nI_1, nI_1 (i + 1)] at hc
      rw [← nI_1 (i + 1)] at hc
      rw [nI_1 (i + 1), hr.1, ← nI_1 (i + 1)] at hc
      refine clI hc (by decide) (by decide) ?_
      have hd := c_X4_exchange hl (mset (mrow M 17 f) 5 1 (nI E.length)) o (n := E.length) (a := i + 1) (b := rmN (M 15 u) (i + 2)) rfl e8 (by omega) (by omega)
      refine clV hd (by decide) (by decide) ?_
      have hnx := ih (u + 1) _ _ (by omega) (hx.swp (a := i + 1) (b := rmN (M 15 u) (i + 2)) (by omega) (by omega)) he
      rw [← nI_1, ← pk_m1 i] at hnx
      have em : ∀ (g : Nat → Int32), mset (mset (mset (mrow M 17 f) 5 1 (nI E.length)) 17 (i + 1) ((mset (mrow M 17 f) 5 1 (nI E.length)) 17 (rmN (M 15 u) (i + 2)))) 17 (rmN (M 15 u) (i + 2)) ((mset (mrow M 17 f) 5 1 (nI E.length)) 17 (i + 1)) = mset (mrow M 17 (upd (upd f (i + 1) (f (rmN (M 15 u) (i + 2)))) (rmN (M 15 u) (i + 2)) (f (i + 1)))) 5 1 (nI E.length) := by
        intro _
        funext x
        by_cases h1 : x = 17
        · subst h1; rfl
        by_cases h2 : x = 5
        · subst h2; rfl
        · simp [mset, mrow, h1, h2]
      rw [em f]
      exact hnx
  have key : ∀ m j f, j + m = E.length → Lst f (nI j) (E.take j) → G 3 [some (.ref 3), some (.ref 2), some (.int (nI j)), none] [] (mset (mrow M 17 f) 5 1 (nI j)) o 0 := by
    intro m
    induction m with
    | zero =>
      intro j f hj hx
      refine hG 3 _ _ _ _ _ ?_
      refine clI (c_X4_size hl _ o (i := 4) (by decide)) (by decide) (by decide) ?_
      rw [show mset (mrow M 17 f) 5 1 (nI j) 4 1 = nI E.length from hE.1]
      refine ⟨fun _ => ?_, fun h => absurd (nI_le (by omega) (by omega)) h⟩
      have : j = E.length := by omega
      subst this
      refine hG 17 _ _ _ _ _ ?_
      refine clI (c_X4_size hl _ o (i := 5) (by decide)) (by decide) (by decide) ?_
      rw [show mset (mrow M 17 f) 5 1 (nI E.length) 5 1 = nI E.length from rfl]
      have := key2 (E.length - 1) 0 f E (by omega) (by rw [List.take_length] at hx; exact hx) rfl
      have e : nI (E.length - 1) = nI E.length - 1 := by rw [← nI_pred (E.length - 1), show E.length - 1 + 1 = E.length by omega]
      rw [e] at this
      exact this
    | succ m ih =>
      intro j f hj hx
      refine hG 3 _ _ _ _ _ ?_
      refine clI (c_X4_size hl _ o (i := 4) (by decide)) (by decide) (by decide) ?_
      rw [show mset (mrow M 17 f) 5 1 (nI j) 4 1 = nI E.length from hE.1]
      refine ⟨fun h => absurd h (nI_ge (a := j) (b := E.length) (by omega) (by omega)), fun _ => ?_⟩
      have hlt : (E.take j).length = j := by rw [List.length_take]; omega
      have ha := at_l hl (mset (mrow M 17 f) 5 1 (nI j)) o (i := 4) (xs := E) (nI j) (by decide) hE
      rw [atI_n _ e8 (by omega), show atN E j = E.getD j 0 from if_pos (by omega)] at ha
      refine clI ha (by decide) (by decide) ?_
      refine clV (c_X4_append hl (mset (mrow M 17 f) 5 1 (nI j)) o (i := 5) (n := j) (E.getD j 0) (by decide) rfl (by omega)) (by decide) (by decide) ?_
      have h1 := hx.app (by rw [hlt]; omega) (E.getD j 0)
      rw [← take_snoc E (by omega), hlt] at h1
      have hnx := ih (j + 1) _ (by omega) h1
      rw [← nI_1] at hnx
      have em : mset (mset (mset (mrow M 17 f) 5 1 (nI j)) (5 + 12) j (E.getD j 0)) 5 1 (nI (j + 1)) = mset (mrow M 17 (upd f j (E.getD j 0))) 5 1 (nI j + 1) := by
        rw [nI_1]
        funext x
        by_cases h1 : x = 17
        · subst h1; rfl
        by_cases h2 : x = 5
        · subst h2; exact congrFun (mset_mset M 5 1 (nI j) (nI (j + 1))) 5
        · simp [mset, mrow, h1, h2]
      rw [em]
      exact hnx
  have := key E.length 0 (M 17) (by omega) (by rw [List.take_zero]; exact Lst.nil)
  have em : mset (mrow M 17 (M 17)) 5 1 (nI 0) = M := by
    rw [mrow_self]
    funext x
    by_cases h2 : x = 5
    · subst h2
      funext y
      by_cases h3 : y = 1
      · subst h3; rw [mset_same, hW]; rfl
      · simp [mset, upd, h3]
    · simp [mset, h2]
  rw [em] at this
  exact this
theorem mset_self (M : Mem) (a k : Nat) : mset M a k (M a k) = M := by
  funext x
  by_cases h : x = a
  · subst h
    funext y
    by_cases h2 : y = k
    · subst h2; rw [mset_same]
    · simp [mset, upd, h2]
  · simp [mset, h]
def wN (W L : List Int32) : List Int32 := W.filter (fun x => !decide (x ∈ L))
def hN (W H L : List Int32) : List Int32 := H.filter (fun x => !decide (x ∈ L)) ++ L.filter (fun x => decide (x ∈ W))
abbrev eR (M : Mem) (f g : Nat → Int32) (h w : Nat) (r : Int32) : Mem := mset (mset (mset (mset (mrow (mrow M 18 f) 17 g) 6 1 (nI h)) 5 1 (nI w)) 7 1 0) 3 9 r
theorem c_X6_endRound {l : Launch} (hl : l.stackTraces = false) (M : Mem) (o : Ou) {W H L : List Int32} (hz : bz (M 3 5)) (hW : rl M 5 W) (hH : rl M 6 H) (hL : rl M 7 L) (h8 : (hN W H L).length ≤ 8) : Ct l 10 0 80 [.ref 3] M o (fun v M' o' => v = none ∧ o' = o ∧ ∃ f g, M' = eR M f g (hN W H L).length (wN W L).length (if wnF (M 3 5) (wN W L) (hN W H L) = true then M 3 9 else M 3 9 + 1) ∧ Lst f (nI (hN W H L).length) (hN W H L) ∧ Lst g (nI (wN W L).length) (wN W L)) nX := by
  have l8 := hL.2.1
  refine ct_plain hl ok80 (by decide) (by decide) rfl rfl (by decide) (Nat.le_of_ble_eq_true rfl) (fun G hG => hG 0 _ _ _ _ _ ?_)
  refine clP (c_X4_removeAll_6 hl M o hH hL) (by decide) (by decide) (fun v M' o' q => ?_) (fun _ _ _ q => q.elim)
  obtain ⟨rfl, rfl, f, rfl, hf⟩ := q
  have key : ∀ m j f, j + m = L.length → Lst f (nI (H.filter (fun x => !decide (x ∈ L)) ++ (L.take j).filter (fun x => decide (x ∈ W))).length) (H.filter (fun x => !decide (x ∈ L)) ++ (L.take j).filter (fun x => decide (x ∈ W))) → G 8 [some (.ref 3), some (.int (nI j))] [] (mset (mrow M 18 f) 6 1 (nI (H.filter (fun x => !decide (x ∈ L)) ++ (L.take j).filter (fun x => decide (x ∈ W))).length)) o' 0 := by
    intro m
    induction m with
    | zero =>
      intro j f hj hx
      rw [List.take_of_length_le (by omega)] at hx ⊢
      have hx : Lst f (nI (hN W H L).length) (hN W H L) := hx
      refine hG 8 _ _ _ _ _ ?_
      refine clI (c_X4_size hl _ o' (i := 7) (by decide)) (by decide) (by decide) ?_
      rw [show mset (mrow M 18 f) 6 1 _ 7 1 = nI L.length from hL.1]
      refine ⟨fun _ => ?_, fun h => absurd (nI_le (by omega) (by omega)) h⟩
      refine hG 30 _ _ _ _ _ ?_
      refine clP (c_X4_removeAll_5 hl (mset (mrow M 18 f) 6 1 (nI (hN W H L).length)) o' (xs := W) (ys := L) hW hL) (by decide) (by decide) (fun v M' o' q => ?_) (fun _ _ _ q => q.elim)
      obtain ⟨rfl, rfl, g, rfl, hg⟩ := q
      have hg : Lst g (nI (wN W L).length) (wN W L) := hg
      refine clV (c_X4_empty hl _ o' (i := 7) (by decide)) (by decide) (by decide) ?_
      refine clI (c_X6_isWon hl _ o' (W := wN W L) (H := hN W H L) hz hg hx) (by decide) (by decide) ⟨fun h => ?_, fun h => ?_⟩
      · refine hG 47 _ _ _ _ _ ?_
        have h : wnF (M 3 5) (wN W L) (hN W H L) = true := cond_n h
        refine ⟨⟨rfl, rfl, f, g, ?_, hx, hg⟩, Nat.le_refl _⟩
        rw [if_pos h]
        have e : mset (mset (mrow (mset (mrow M 18 f) 6 1 (nI (hN W H L).length)) 17 g) 5 1 (nI (wN W L).length)) 7 1 0 = mset (mset (mset (mrow (mrow M 18 f) 17 g) 6 1 (nI (hN W H L).length)) 5 1 (nI (wN W L).length)) 7 1 0 := by
          funext x
          by_cases h1 : x = 17
          · subst h1; rfl
          by_cases h2 : x = 6
          · subst h2; rfl
          by_cases h3 : x = 18
          · subst h3; rfl
          · simp [mset, mrow, h1, h2, h3]
        exact e.trans (mset_self (mset (mset (mset (mrow (mrow M 18 f) 17 g) 6 1 (nI (hN W H L).length)) 5 1 (nI (wN W L).length)) 7 1 0) 3 9).symm
      · have h : ¬ wnF (M 3 5) (wN W L) (hN W H L) = true := by rw [show wnF (M 3 5) (wN W L) (hN W H L) = false from cond_z h]; decide
        refine ⟨⟨rfl, rfl, f, g, ?_, hx, hg⟩, Nat.le_refl _⟩
        rw [if_neg h]
        funext x
        by_cases h1 : x = 17
        · subst h1; rfl
        by_cases h2 : x = 6
        · subst h2; rfl
        by_cases h3 : x = 18
        · subst h3; rfl
        by_cases h4 : x = 3
        · subst h4; rfl
        · simp [mset, mrow, h1, h2, h3, h4]; rfl
    | succ m ih =>
      intro j f hj hx
      have hlt : j < L.length := by omega
      have ha : ∀ f r, Ct l 8 0 48 [.ref 7, .int (nI j)] (mset (mrow M 18 f) 6 1 r) o' (rI (L.getD j 0) (mset (mrow M 18 f) 6 1 r) o') nX := by
        intro f r
        have ha := at_l hl (mset (mrow M 18 f) 6 1 r) o' (i := 7) (xs := L) (nI j) (by decide) hL
        rw [atI_n _ l8 (by omega), show atN L j = L.getD j 0 from if_pos (by omega)] at ha
        exact ha
      have hlen : ((H.filter (fun x => !decide (x ∈ L)) ++ (L.take (j + 1)).filter (fun x => decide (x ∈ W))).length) ≤ 8 := by
        refine Nat.le_trans ?_ h8
        unfold hN
        rw [List.length_append, List.length_append]
        refine Nat.add_le_add_left ?_ _
        exact (List.Sublist.filter _ (List.take_sublist _ _)).length_le
      have hnx := ih (j + 1)
      rw [take_snoc L hlt, filter_snoc] at hnx hlen
      generalize H.filter (fun x => !decide (x ∈ L)) = H1 at hx hnx hlen ⊢
      generalize (L.take j).filter (fun x => decide (x ∈ W)) = L1 at hx hnx hlen ⊢
      refine hG 8 _ _ _ _ _ ?_
      refine clI (c_X4_size hl _ o' (i := 7) (by decide)) (by decide) (by decide) ?_
      rw [show mset (mrow M 18 f) 6 1 _ 7 1 = nI L.length from hL.1]
      refine ⟨fun h => absurd h (nI_ge (a := j) (b := L.length) hlt (by omega)), fun _ => ?_⟩
      refine clI (ha _ _) (by decide) (by decide) (clI (has_l hl _ o' (i := 5) (xs := W) (L.getD j 0) (by decide) hW) (by decide) (by decide) ⟨fun h => ?_, fun h => ?_⟩)
      · refine hG 28 _ _ _ _ _ ?_
        have hm : ¬ decide (L.getD j 0 ∈ W) = true := by rw [cond_z h]; decide
        have := hnx f (by omega)
        rw [if_neg hm, List.append_nil] at this
        have := this hx
        rw [← nI_1] at this
        exact this
      · have hm : decide (L.getD j 0 ∈ W) = true := cond_n h
        rw [if_pos hm, ← List.append_assoc] at hlen
        rw [List.length_append] at hlen
        have hlen : (H1 ++ L1).length + 1 ≤ 8 := hlen
        refine clI (ha _ _) (by decide) (by decide) ?_
        refine clV (c_X4_append hl (mset (mrow M 18 f) 6 1 (nI (H1 ++ L1).length)) o' (i := 6) (n := (H1 ++ L1).length) (L.getD j 0) (by decide) rfl (by omega)) (by decide) (by decide) ?_
        have := hnx (upd f (H1 ++ L1).length (L.getD j 0)) (by omega)
        rw [if_pos hm, ← List.append_assoc] at this
        have h1 := hx.app (by omega) (L.getD j 0)
        have el : (H1 ++ L1 ++ [L.getD j 0]).length = (H1 ++ L1).length + 1 := by rw [List.length_append]; rfl
        rw [← el] at h1
        have := this h1
        rw [← nI_1, el] at this
        have em : mset (mset (mset (mrow M 18 f) 6 1 (nI (H1 ++ L1).length)) (6 + 12) (H1 ++ L1).length (L.getD j 0)) 6 1 (nI ((H1 ++ L1).length + 1)) = mset (mrow M 18 (upd f (H1 ++ L1).length (L.getD j 0))) 6 1 (nI ((H1 ++ L1).length + 1)) := by
          funext x
          by_cases h1 : x = 18
          · subst h1; rfl
          by_cases h2 : x = 6
          · subst h2; exact congrFun (mset_mset M 6 1 _ _) 6
          · simp [mset, mrow, h1, h2]
        rw [em]
        exact this
  have := key L.length 0 f (by omega) (by rw [List.take_zero, List.filter_nil, List.append_nil]; exact hf)
  rw [List.take_zero, List.filter_nil, List.append_nil] at this
  exact this
/-- the memory after a loser was written down -/
abbrev eM (M : Mem) (n : Nat) (t : Int32) : Mem := mset (mset (mset M 19 n t) 7 1 (nI (n + 1))) 3 8 (M 3 8 + 1)
theorem c_X6_endMatch {l : Launch} (hl : l.stackTraces = false) (M : Mem) (o : Ou) {W H L : List Int32} (t : Int32) (hz : bz (M 3 5)) (hW : rl M 5 W) (hH : rl M 6 H) (hL : rl M 7 L) (h7 : L.length < 8) (h8 : (hN W H (L ++ [t])).length ≤ 8) : Ct l 11 0 79 [.ref 3, .int t] M o (fun v M' o' => v = none ∧ o' = o ∧ ((¬ snF W H (L.length + 1) 0 = -1 ∧ M' = eM M L.length t) ∨ (snF W H (L.length + 1) 0 = -1 ∧ ∃ f g, M' = eR (eM M L.length t) f g (hN W H (L ++ [t])).length (wN W (L ++ [t])).length (if wnF (M 3 5) (wN W (L ++ [t])) (hN W H (L ++ [t])) = true then M 3 9 else M 3 9 + 1) ∧ Lst f (nI (hN W H (L ++ [t])).length) (hN W H (L ++ [t])) ∧ Lst g (nI (wN W (L ++ [t])).length) (wN W (L ++ [t]))))) nX := by
  refine ct_plain hl ok79 (by decide) (by decide) rfl rfl (by decide) (Nat.le_of_ble_eq_true rfl) (fun G hG => hG 0 _ _ _ _ _ ?_)
  refine clV (c_X4_append hl M o (i := 7) t (by decide) hL.1 h7) (by decide) (by decide) ?_
  have hL' : Lst (upd (M 19) L.length t) (nI (L.length + 1)) (L ++ [t]) := hL.app h7 t
  have el : (L ++ [t]).length = L.length + 1 := by rw [List.length_append]; rfl
  have hs := c_X6_sideOfNext hl (eM M L.length t) o (w := 0) (W := W) (H := H) (L := L ++ [t]) hW hH hL' (by decide)
  rw [el] at hs
  refine clI hs (by decide) (by decide) ⟨fun h => ?_, fun h => ?_⟩
  · refine hG 17 _ _ _ _ _ ?_
    exact ⟨⟨rfl, rfl, Or.inl ⟨h, rfl⟩⟩, Nat.le_refl _⟩
  · refine clP (c_X6_endRound hl (eM M L.length t) o (W := W) (H := H) (L := L ++ [t]) hz hW hH hL' h8) (by decide) (by decide) (fun v M' o' q => ?_) (fun _ _ _ q => q.elim)
    obtain ⟨rfl, rfl, f, g, rfl, hf, hg⟩ := q
    exact ⟨⟨rfl, rfl, Or.inr ⟨h, f, g, rfl, hf, hg⟩⟩, Nat.le_refl _⟩
