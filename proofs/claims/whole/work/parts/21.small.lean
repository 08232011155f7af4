/-! CONTRACTS: Noise, Row, Stable. -/
theorem i20 : (20 : Int32) = nI 20 := by decide
theorem i32 : (32 : Int32) = nI 32 := by decide
theorem i60 : (60 : Int32) = nI 60 := by decide
theorem im1 : ∀ n, n < 2 ^ 31 → ¬ nI n = -1 := by
  intro n h e
  have h1 : (nI n).toInt = (n : Int) := nI_toInt h
  rw [e] at h1
  have : (-1 : Int32).toInt = -1 := by decide
  omega
theorem c_X1_size {l : Launch} (hl : l.stackTraces = false) (M : Mem) (o : Ou) : Ct l 8 0 17 [.ref 2] M o (rI (M 2 1) M o) nX := by
  refine ct_plain hl ok17 (by decide) (by decide) rfl rfl (by decide) (Nat.le_of_ble_eq_true rfl) (fun G hG => hG 0 _ _ _ _ _ ?_)
  exact ⟨⟨rfl, rfl, rfl⟩, Nat.le_refl _⟩
theorem c_X1_add {l : Launch} (hl : l.stackTraces = false) (M : Mem) (o : Ou) {n : Nat} (v : Int32) (hf : M 2 1 = nI n) (hn : n ≤ 20) : Ct l 8 0 18 [.ref 2, .int v] M o (rI (if n = 20 then -1 else nI (n + 1)) (if n = 20 then M else mset (mset M 15 n v) 2 1 (nI (n + 1))) o) nX := by
  refine ct_plain hl ok18 (by decide) (by decide) rfl rfl (by decide) (Nat.le_of_ble_eq_true rfl) (fun G hG => hG 0 _ _ _ _ _ ?_)
  have hf : M 2 1 = nI n := hf
  refine ⟨fun h => ?_, fun h => ?_⟩
  · refine hG 6 _ _ _ _ _ ?_
    have h : nI n < 20 := by rw [← hf]; exact h
    have hn : n < 20 := (nI_ltI (by omega) (by decide)).mp h
    refine ⟨by rw [hf]; exact vp_in_nI hn (by decide), ⟨?_, ?_, rfl⟩, Nat.le_refl _⟩
    · rw [if_neg (by omega), ← nI_1, ← hf]; rfl
    · rw [if_neg (by omega), ← nI_1, ← hf, hf, nI_clamp (by omega), ← hf]; rfl
  · have h : ¬ nI n < 20 := by rw [← hf]; exact h
    have hn : n = 20 := by
      have : ¬ n < 20 := fun q => h ((nI_ltI (by omega) (by decide)).mpr q)
      omega
    exact ⟨⟨by rw [if_pos hn], by rw [if_pos hn], rfl⟩, Nat.le_refl _⟩
theorem c_X1_empty {l : Launch} (hl : l.stackTraces = false) (M : Mem) (o : Ou) : Ct l 8 0 19 [.ref 2] M o (rV (mset M 2 1 0) o) nX := by
  refine ct_plain hl ok19 (by decide) (by decide) rfl rfl (by decide) (Nat.le_of_ble_eq_true rfl) (fun G hG => hG 0 _ _ _ _ _ ?_)
  exact ⟨⟨rfl, rfl, rfl⟩, Nat.le_refl _⟩
/-! rows: i is the row's number, its teams lie at i + 12 -/
theorem c_X4_size {l : Launch} (hl : l.stackTraces = false) (M : Mem) (o : Ou) {i : Nat} (hi : i = 4 ∨ i = 5 ∨ i = 6 ∨ i = 7) : Ct l 8 0 45 [.ref i] M o (rI (M i 1) M o) nX := by
  rcases hi with rfl | rfl | rfl | rfl <;>
  · refine ct_plain hl ok45 (by decide) (by decide) rfl rfl (by decide) (Nat.le_of_ble_eq_true rfl) (fun G hG => hG 0 _ _ _ _ _ ?_)
    exact ⟨⟨rfl, rfl, rfl⟩, Nat.le_refl _⟩
theorem c_X4_empty {l : Launch} (hl : l.stackTraces = false) (M : Mem) (o : Ou) {i : Nat} (hi : i = 4 ∨ i = 5 ∨ i = 6 ∨ i = 7) : Ct l 8 0 46 [.ref i] M o (rV (mset M i 1 0) o) nX := by
  rcases hi with rfl | rfl | rfl | rfl <;>
  · refine ct_plain hl ok46 (by decide) (by decide) rfl rfl (by decide) (Nat.le_of_ble_eq_true rfl) (fun G hG => hG 0 _ _ _ _ _ ?_)
    exact ⟨⟨rfl, rfl, rfl⟩, Nat.le_refl _⟩
theorem c_X4_append {l : Launch} (hl : l.stackTraces = false) (M : Mem) (o : Ou) {i n : Nat} (t : Int32) (hi : i = 4 ∨ i = 5 ∨ i = 6 ∨ i = 7) (hf : M i 1 = nI n) (hn : n < 8) : Ct l 8 0 47 [.ref i, .int t] M o (rV (mset (mset M (i + 12) n t) i 1 (nI (n + 1))) o) nX := by
  have h8 : ¬ (8 : Int32) ≤ nI n := nI_ge (a := n) (b := 8) hn (by decide)
  have e : nI (n + 1) = nI n + 1 := (nI_1 n).symm
  have ec : (nI n).toNatClampNeg = n := nI_clamp (by omega)
  have ein : vp_in (nI n) 8 := vp_in_nI hn (by decide)
  rcases hi with rfl | rfl | rfl | rfl <;>
  · refine ct_plain hl ok47 (by decide) (by decide) rfl rfl (by decide) (Nat.le_of_ble_eq_true rfl) (fun G hG => hG 0 _ _ _ _ _ ?_)
    refine ⟨fun h => absurd (by rw [← hf]; exact h) h8, fun _ => ⟨by rw [hf]; exact ein, ⟨rfl, ?_, rfl⟩, Nat.le_refl _⟩⟩
    rw [hf, ec, e, ← hf]; rfl
theorem c_X4_at {l : Launch} (hl : l.stackTraces = false) (M : Mem) (o : Ou) {i n : Nat} (k : Int32) (hi : i = 4 ∨ i = 5 ∨ i = 6 ∨ i = 7) (hf : M i 1 = nI n) (hn : n ≤ 8) : Ct l 8 0 48 [.ref i, .int k] M o (rI (if k < 0 ∨ nI n ≤ k then -1 else M (i + 12) k.toNatClampNeg) M o) nX := by
  have key : ¬ k < 0 → ¬ nI n ≤ k → vp_in k 8 := by
    intro h1 h2
    obtain ⟨j, hj, rfl⟩ := nI_of h1
    have : ¬ n ≤ j := fun q => h2 (nI_le q (by omega))
    exact vp_in_nI (by omega) (by decide)
  rcases hi with rfl | rfl | rfl | rfl <;>
  · refine ct_plain hl ok48 (by decide) (by decide) rfl rfl (by decide) (Nat.le_of_ble_eq_true rfl) (fun G hG => hG 0 _ _ _ _ _ ?_)
    refine ⟨fun h => ?_, fun h => ⟨fun h2 => ?_, fun h2 => ⟨?_, ?_⟩⟩⟩
    · refine hG 11 _ _ _ _ _ ?_
      exact ⟨⟨by rw [if_pos (Or.inl h)], rfl, rfl⟩, Nat.le_refl _⟩
    · refine hG 11 _ _ _ _ _ ?_
      exact ⟨⟨by rw [if_pos (Or.inr (by rw [← hf]; exact h2))], rfl, rfl⟩, Nat.le_refl _⟩
    · exact key h (by rw [← hf]; exact h2)
    · refine hG 12 _ _ _ _ _ ?_
      exact ⟨⟨by rw [if_neg (by rw [← hf]; exact fun q => q.elim h h2)], rfl, rfl⟩, Nat.le_refl _⟩
def hasN (f : Nat → Int32) (n : Nat) (t : Int32) : Bool := (List.range n).any (fun j => f j == t)
theorem hasN_iff {f : Nat → Int32} {n : Nat} {t : Int32} : hasN f n t = true ↔ ∃ j, j < n ∧ f j = t := by
  simp [hasN, List.any_eq_true, List.mem_range]
theorem c_X4_contains_4 {l : Launch} (hl : l.stackTraces = false) (M : Mem) (o : Ou) {n : Nat} (t : Int32) (hf : M 4 1 = nI n) (hn : n ≤ 8) : Ct l 8 0 49 [.ref 4, .int t] M o (rI (cond (hasN (M 16) n t) 1 0) M o) nX := by
  refine ct_plain hl ok49 (by decide) (by decide) rfl rfl (by decide) (Nat.le_of_ble_eq_true rfl) (fun G hG => hG 0 _ _ _ _ _ ?_)
  have key : ∀ m j, j + m = n → (∀ q, q < j → ¬ M 16 q = t) → G 3 [some (.ref 4), some (.int t), some (.int (nI j))] [] M o 0 := by
    intro m
    induction m with
    | zero =>
      intro j hj hq
      refine hG 3 _ _ _ _ _ ?_
      refine ⟨fun _ => ?_, fun h => absurd (by rw [show M 4 1 = nI n from hf]; exact nI_le (by omega) (by omega)) h⟩
      refine hG 17 _ _ _ _ _ ?_
      have : hasN (M 16) n t = false := by
        rw [Bool.eq_false_iff]
        intro h
        obtain ⟨q, h1, h2⟩ := hasN_iff.mp h
        exact hq q (by omega) h2
      exact ⟨bz0, ⟨by rw [this]; rfl, rfl, rfl⟩, Nat.le_refl _⟩
    | succ m ih =>
      intro j hj hq
      refine hG 3 _ _ _ _ _ ?_
      refine ⟨fun h => absurd (by rw [← show M 4 1 = nI n from hf]; exact h) (nI_ge (a := j) (b := n) (by omega) (by omega)), fun _ => ⟨vp_in_nI (show j < 8 by omega) (by decide), fun h => ?_, fun h => ?_⟩⟩
      · refine hG 15 _ _ _ _ _ ?_
        rw [nI_clamp (by omega)] at h
        have := ih (j + 1) (by omega) (fun q hq1 => by
          rcases Nat.lt_or_ge q j with h1 | h1
          · exact hq q h1
          · rw [show q = j by omega]; exact h)
        rw [← nI_1] at this
        exact this
      · rw [nI_clamp (by omega)] at h
        have : hasN (M 16) n t = true := hasN_iff.mpr ⟨j, by omega, h⟩
        exact ⟨bz1, ⟨by rw [this]; rfl, rfl, rfl⟩, Nat.le_refl _⟩
  exact key n 0 (by omega) (fun q h => absurd h (by omega))
theorem c_X4_contains_5 {l : Launch} (hl : l.stackTraces = false) (M : Mem) (o : Ou) {n : Nat} (t : Int32) (hf : M 5 1 = nI n) (hn : n ≤ 8) : Ct l 8 0 49 [.ref 5, .int t] M o (rI (cond (hasN (M 17) n t) 1 0) M o) nX := by
  refine ct_plain hl ok49 (by decide) (by decide) rfl rfl (by decide) (Nat.le_of_ble_eq_true rfl) (fun G hG => hG 0 _ _ _ _ _ ?_)
  have key : ∀ m j, j + m = n → (∀ q, q < j → ¬ M 17 q = t) → G 3 [some (.ref 5), some (.int t), some (.int (nI j))] [] M o 0 := by
    intro m
    induction m with
    | zero =>
      intro j hj hq
      refine hG 3 _ _ _ _ _ ?_
      refine ⟨fun _ => ?_, fun h => absurd (by rw [show M 5 1 = nI n from hf]; exact nI_le (by omega) (by omega)) h⟩
      refine hG 17 _ _ _ _ _ ?_
      have : hasN (M 17) n t = false := by
        rw [Bool.eq_false_iff]
        intro h
        obtain ⟨q, h1, h2⟩ := hasN_iff.mp h
        exact hq q (by omega) h2
      exact ⟨bz0, ⟨by rw [this]; rfl, rfl, rfl⟩, Nat.le_refl _⟩
    | succ m ih =>
      intro j hj hq
      refine hG 3 _ _ _ _ _ ?_
      refine ⟨fun h => absurd (by rw [← show M 5 1 = nI n from hf]; exact h) (nI_ge (a := j) (b := n) (by omega) (by omega)), fun _ => ⟨vp_in_nI (show j < 8 by omega) (by decide), fun h => ?_, fun h => ?_⟩⟩
      · refine hG 15 _ _ _ _ _ ?_
        rw [nI_clamp (by omega)] at h
        have := ih (j + 1) (by omega) (fun q hq1 => by
          rcases Nat.lt_or_ge q j with h1 | h1
          · exact hq q h1
          · rw [show q = j by omega]; exact h)
        rw [← nI_1] at this
        exact this
      · rw [nI_clamp (by omega)] at h
        have : hasN (M 17) n t = true := hasN_iff.mpr ⟨j, by omega, h⟩
        exact ⟨bz1, ⟨by rw [this]; rfl, rfl, rfl⟩, Nat.le_refl _⟩
  exact key n 0 (by omega) (fun q h => absurd h (by omega))
theorem c_X4_contains_6 {l : Launch} (hl : l.stackTraces = false) (M : Mem) (o : Ou) {n : Nat} (t : Int32) (hf : M 6 1 = nI n) (hn : n ≤ 8) : Ct l 8 0 49 [.ref 6, .int t] M o (rI (cond (hasN (M 18) n t) 1 0) M o) nX := by
  refine ct_plain hl ok49 (by decide) (by decide) rfl rfl (by decide) (Nat.le_of_ble_eq_true rfl) (fun G hG => hG 0 _ _ _ _ _ ?_)
  have key : ∀ m j, j + m = n → (∀ q, q < j → ¬ M 18 q = t) → G 3 [some (.ref 6), some (.int t), some (.int (nI j))] [] M o 0 := by
    intro m
    induction m with
    | zero =>
      intro j hj hq
      refine hG 3 _ _ _ _ _ ?_
      refine ⟨fun _ => ?_, fun h => absurd (by rw [show M 6 1 = nI n from hf]; exact nI_le (by omega) (by omega)) h⟩
      refine hG 17 _ _ _ _ _ ?_
      have : hasN (M 18) n t = false := by
        rw [Bool.eq_false_iff]
        intro h
        obtain ⟨q, h1, h2⟩ := hasN_iff.mp h
        exact hq q (by omega) h2
      exact ⟨bz0, ⟨by rw [this]; rfl, rfl, rfl⟩, Nat.le_refl _⟩
    | succ m ih =>
      intro j hj hq
      refine hG 3 _ _ _ _ _ ?_
      refine ⟨fun h => absurd (by rw [← show M 6 1 = nI n from hf]; exact h) (nI_ge (a := j) (b := n) (by omega) (by omega)), fun _ => ⟨vp_in_nI (show j < 8 by omega) (by decide), fun h => ?_, fun h => ?_⟩⟩
      · refine hG 15 _ _ _ _ _ ?_
        rw [nI_clamp (by omega)] at h
        have := ih (j + 1) (by omega) (fun q hq1 => by
          rcases Nat.lt_or_ge q j with h1 | h1
          · exact hq q h1
          · rw [show q = j by omega]; exact h)
        rw [← nI_1] at this
        exact this
      · rw [nI_clamp (by omega)] at h
        have : hasN (M 18) n t = true := hasN_iff.mpr ⟨j, by omega, h⟩
        exact ⟨bz1, ⟨by rw [this]; rfl, rfl, rfl⟩, Nat.le_refl _⟩
  exact key n 0 (by omega) (fun q h => absurd h (by omega))
theorem c_X4_contains_7 {l : Launch} (hl : l.stackTraces = false) (M : Mem) (o : Ou) {n : Nat} (t : Int32) (hf : M 7 1 = nI n) (hn : n ≤ 8) : Ct l 8 0 49 [.ref 7, .int t] M o (rI (cond (hasN (M 19) n t) 1 0) M o) nX := by
  refine ct_plain hl ok49 (by decide) (by decide) rfl rfl (by decide) (Nat.le_of_ble_eq_true rfl) (fun G hG => hG 0 _ _ _ _ _ ?_)
  have key : ∀ m j, j + m = n → (∀ q, q < j → ¬ M 19 q = t) → G 3 [some (.ref 7), some (.int t), some (.int (nI j))] [] M o 0 := by
    intro m
    induction m with
    | zero =>
      intro j hj hq
      refine hG 3 _ _ _ _ _ ?_
      refine ⟨fun _ => ?_, fun h => absurd (by rw [show M 7 1 = nI n from hf]; exact nI_le (by omega) (by omega)) h⟩
      refine hG 17 _ _ _ _ _ ?_
      have : hasN (M 19) n t = false := by
        rw [Bool.eq_false_iff]
        intro h
        obtain ⟨q, h1, h2⟩ := hasN_iff.mp h
        exact hq q (by omega) h2
      exact ⟨bz0, ⟨by rw [this]; rfl, rfl, rfl⟩, Nat.le_refl _⟩
    | succ m ih =>
      intro j hj hq
      refine hG 3 _ _ _ _ _ ?_
      refine ⟨fun h => absurd (by rw [← show M 7 1 = nI n from hf]; exact h) (nI_ge (a := j) (b := n) (by omega) (by omega)), fun _ => ⟨vp_in_nI (show j < 8 by omega) (by decide), fun h => ?_, fun h => ?_⟩⟩
      · refine hG 15 _ _ _ _ _ ?_
        rw [nI_clamp (by omega)] at h
        have := ih (j + 1) (by omega) (fun q hq1 => by
          rcases Nat.lt_or_ge q j with h1 | h1
          · exact hq q h1
          · rw [show q = j by omega]; exact h)
        rw [← nI_1] at this
        exact this
      · rw [nI_clamp (by omega)] at h
        have : hasN (M 19) n t = true := hasN_iff.mpr ⟨j, by omega, h⟩
        exact ⟨bz1, ⟨by rw [this]; rfl, rfl, rfl⟩, Nat.le_refl _⟩
  exact key n 0 (by omega) (fun q h => absurd h (by omega))
theorem c_X4_contains {l : Launch} (hl : l.stackTraces = false) (M : Mem) (o : Ou) {i n : Nat} (t : Int32) (hi : i = 4 ∨ i = 5 ∨ i = 6 ∨ i = 7) (hf : M i 1 = nI n) (hn : n ≤ 8) : Ct l 8 0 49 [.ref i, .int t] M o (rI (cond (hasN (M (i + 12)) n t) 1 0) M o) nX := by
  rcases hi with rfl | rfl | rfl | rfl
  · exact c_X4_contains_4 hl M o t hf hn
  · exact c_X4_contains_5 hl M o t hf hn
  · exact c_X4_contains_6 hl M o t hf hn
  · exact c_X4_contains_7 hl M o t hf hn
