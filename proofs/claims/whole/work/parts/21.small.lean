/-! CONTRACTS: Noise, Row, Stable. -/
theorem i20 : (20 : Int32) = nI 20 := by decide
theorem i32 : (32 : Int32) = nI 32 := by decide
theorem i60 : (60 : Int32) = nI 60 := by decide
theorem im1 : ∀ n, n < 2 ^ 31 → ¬ nI n = -1 := by
  intro n h e
  have h1 : (nI n).toInt = (n : Int) := nI_toInt h
  rw [e] at h1
  have : (-1 : Int32).toInt = -1 := by decide
  omega
theorem c_X1_size {l : Launch} (hl : l.stackTraces = false) (M : Mem) (o : Ou) : Ct l 8 0 17 [.ref 2] M o (rI (M 2 1) M o) nX := by
  refine ct_plain hl ok17 (by decide) (by decide) rfl rfl (by decide) (Nat.le_of_ble_eq_true rfl) (fun G hG => hG 0 _ _ _ _ _ ?_)
  exact ⟨⟨rfl, rfl, rfl⟩, Nat.le_refl _⟩
theorem c_X1_add {l : Launch} (hl : l.stackTraces = false) (M : Mem) (o : Ou) {n : Nat} (v : Int32) (hf : M 2 1 = nI n) (hn : n ≤ 20) : Ct l 8 0 18 [.ref 2, .int v] M o (rI (if n = 20 then -1 else nI (n + 1)) (if n = 20 then M else mset (mset M 15 n v) 2 1 (nI (n + 1))) o) nX := by
  refine ct_plain hl ok18 (by decide) (by decide) rfl rfl (by decide) (Nat.le_of_ble_eq_true rfl) (fun G hG => hG 0 _ _ _ _ _ ?_)
  have hf : M 2 1 = nI n := hf
  refine ⟨fun h => ?_, fun h => ?_⟩
  · refine hG 6 _ _ _ _ _ ?_
    have h : nI n < 20 := by rw [← hf]; exact h
    have hn : n < 20 := (nI_ltI (by omega) (by decide)).mp h
    refine ⟨by rw [hf]; exact vp_in_nI hn (by decide), ⟨?_, ?_, rfl⟩, Nat.le_refl _⟩
    · rw [if_neg (by omega), ← nI_1, ← hf]; rfl
    · rw [if_neg (by omega), ← nI_1, ← hf, hf, nI_clamp (by omega), ← hf]; rfl
  · have h : ¬ nI n < 20 := by rw [← hf]; exact h
    have hn : n = 20 := by
      have : ¬ n < 20 := fun q => h ((nI_ltI (by omega) (by decide)).mpr q)
      omega
    exact ⟨⟨by rw [if_pos hn], by rw [if_pos hn], rfl⟩, Nat.le_refl _⟩
theorem c_X1_empty {l : Launch} (hl : l.stackTraces = false) (M : Mem) (o : Ou) : Ct l 8 0 19 [.ref 2] M o (rV (mset M 2 1 0) o) nX := by
  refine ct_plain hl ok19 (by decide) (by decide) rfl rfl (by decide) (Nat.le_of_ble_eq_true rfl) (fun G hG => hG 0 _ _ _ _ _ ?_)
  exact ⟨⟨rfl, rfl, rfl⟩, Nat.le_refl _⟩
/-! rows: i is the row's number, its teams lie at i + 12 -/
theorem c_X4_size {l : Launch} (hl : l.stackTraces = false) (M : Mem) (o : Ou) {i : Nat} (hi : i = 4 ∨ i = 5 ∨ i = 6 ∨ i = 7) : Ct l 8 0 45 [.ref i] M o (rI (M i 1) M o) nX := by
  rcases hi with rfl | rfl | rfl | rfl <;>
  · refine ct_plain hl ok45 (by decide) (by decide) rfl rfl (by decide) (Nat.le_of_ble_eq_true rfl) (fun G hG => hG 0 _ _ _ _ _ ?_)
    exact ⟨⟨rfl, rfl, rfl⟩, Nat.le_refl _⟩
theorem c_X4_empty {l : Launch} (hl : l.stackTraces = false) (M : Mem) (o : Ou) {i : Nat} (hi : i = 4 ∨ i = 5 ∨ i = 6 ∨ i = 7) : Ct l 8 0 46 [.ref i] M o (rV (mset M i 1 0) o) nX := by
  rcases hi with rfl | rfl | rfl | rfl <;>
  · refine ct_plain hl ok46 (by decide) (by decide) rfl rfl (by decide) (Nat.le_of_ble_eq_true rfl) (fun G hG => hG 0 _ _ _ _ _ ?_)
    exact ⟨⟨rfl, rfl, rfl⟩, Nat.le_refl _⟩
theorem c_X4_append {l : Launch} (hl : l.stackTraces = false) (M : Mem) (o : Ou) {i n : Nat} (t : Int32) (hi : i = 4 ∨ i = 5 ∨ i = 6 ∨ i = 7) (hf : M i 1 = nI n) (hn : n < 8) : Ct l 8 0 47 [.ref i, .int t] M o (rV (mset (mset M (i + 12) n t) i 1 (nI (n + 1))) o) nX := by
  have h8 : ¬ (8 : Int32) ≤ nI n := nI_ge (a := n) (b := 8) hn (by decide)
  have e : nI (n + 1) = nI n + 1 := (nI_1 n).symm
  have ec : (nI n).toNatClampNeg = n := nI_clamp (by omega)
  have ein : vp_in (nI n) 8 := vp_in_nI hn (by decide)
  rcases hi with rfl | rfl | rfl | rfl <;>
  · refine ct_plain hl ok47 (by decide) (by decide) rfl rfl (by decide) (Nat.le_of_ble_eq_true rfl) (fun G hG => hG 0 _ _ _ _ _ ?_)
    refine ⟨fun h => absurd (by rw [← hf]; exact h) h8, fun _ => ⟨by rw [hf]; exact ein, ⟨rfl, ?_, rfl⟩, Nat.le_refl _⟩⟩
    rw [hf, ec, e, ← hf]; rfl
