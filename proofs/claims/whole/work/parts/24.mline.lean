/-! CONTRACTS: the reference's small ones, and its line. -/
theorem c_X8_thrown {l : Launch} (hl : l.stackTraces = false) (M : Mem) (o : Ou) : Ct l 8 0 121 [.ref 11] M o (rI (M 11 0) M o) nX := by
  refine ct_plain hl ok121 (by decide) (by decide) rfl rfl (by decide) (Nat.le_of_ble_eq_true rfl) (fun G hG => hG 0 _ _ _ _ _ ?_)
  exact ⟨⟨rfl, rfl, rfl⟩, Nat.le_refl _⟩
theorem c_X8_bad0 {l : Launch} (hl : l.stackTraces = false) (M : Mem) (o : Ou) (w : Int32) : Ct l 8 0 122 [.ref 11, .int 0, .int w] M o (rI 0 M o) nX := by
  refine ct_plain hl ok122 (by decide) (by decide) rfl rfl (by decide) (Nat.le_of_ble_eq_true rfl) (fun G hG => hG 0 _ _ _ _ _ ?_)
  refine ⟨fun _ => ?_, fun h => absurd rfl h⟩
  refine hG 5 _ _ _ _ _ ?_
  exact ⟨bz0, ⟨rfl, rfl, rfl⟩, Nat.le_refl _⟩
theorem c_X8_bad1 {l : Launch} (hl : l.stackTraces = false) (M : Mem) (o : Ou) (w : Int32) : Ct l 8 0 122 [.ref 11, .int 1, .int w] M o (rI 1 (mset M 11 0 w) o) nX := by
  refine ct_plain hl ok122 (by decide) (by decide) rfl rfl (by decide) (Nat.le_of_ble_eq_true rfl) (fun G hG => hG 0 _ _ _ _ _ ?_)
  refine ⟨fun h => absurd h (by decide), fun _ => ?_⟩
  exact ⟨bz1, ⟨rfl, rfl, rfl⟩, Nat.le_refl _⟩
def whF (v : Int32) : Bool := decide (v = 0) || decide (v = 1)
theorem c_X8_isWhich {l : Launch} (hl : l.stackTraces = false) (M : Mem) (o : Ou) (v : Int32) : Ct l 8 0 139 [.int v] M o (rI (cond (whF v) 1 0) M o) nX := by
  refine ct_plain hl ok139 (by decide) (by decide) rfl rfl (by decide) (Nat.le_of_ble_eq_true rfl) (fun G hG => hG 0 _ _ _ _ _ ?_)
  refine ⟨fun h => ?_, fun h => ⟨fun h2 => ?_, fun h2 => ?_⟩⟩
  · refine hG 5 _ _ _ _ _ ?_
    refine hG 8 _ _ _ _ _ ?_
    exact ⟨bz1, ⟨by unfold whF; rw [decide_eq_true h]; rfl, rfl, rfl⟩, Nat.le_refl _⟩
  · refine hG 7 _ _ _ _ _ ?_
    exact ⟨bz0, ⟨by unfold whF; rw [decide_eq_false h, decide_eq_false h2]; rfl, rfl, rfl⟩, Nat.le_refl _⟩
  · refine hG 8 _ _ _ _ _ ?_
    exact ⟨bz1, ⟨by unfold whF; rw [decide_eq_true h2, Bool.or_true]; rfl, rfl, rfl⟩, Nat.le_refl _⟩
def plF (v : Int32) : Bool := decide (-1000 ≤ v) && decide (v ≤ 1000)
theorem c_X8_isPlace {l : Launch} (hl : l.stackTraces = false) (M : Mem) (o : Ou) (v : Int32) : Ct l 8 0 162 [.int v] M o (rI (cond (plF v) 1 0) M o) nX := by
  refine ct_plain hl ok162 (by decide) (by decide) rfl rfl (by decide) (Nat.le_of_ble_eq_true rfl) (fun G hG => hG 0 _ _ _ _ _ ?_)
  refine ⟨fun h => ?_, fun h => ⟨fun h2 => ?_, fun h2 => ?_⟩⟩
  · refine hG 8 _ _ _ _ _ ?_
    exact ⟨bz0, ⟨by unfold plF; rw [decide_eq_false (Int32.not_le.mpr h)]; rfl, rfl, rfl⟩, Nat.le_refl _⟩
  · refine hG 8 _ _ _ _ _ ?_
    exact ⟨bz0, ⟨by unfold plF; rw [decide_eq_false (Int32.not_le.mpr h2), Bool.and_false]; rfl, rfl, rfl⟩, Nat.le_refl _⟩
  · refine hG 9 _ _ _ _ _ ?_
    exact ⟨bz1, ⟨by unfold plF; rw [decide_eq_true (Int32.not_lt.mp h), decide_eq_true (Int32.not_lt.mp h2)]; rfl, rfl, rfl⟩, Nat.le_refl _⟩
def lnF (x y dx dy : Int32) : Bool := plF x && plF y && plF dx && plF dy && (!decide (dx = 0) || !decide (dy = 0))
theorem c_X8_isLine {l : Launch} (hl : l.stackTraces = false) (M : Mem) (o : Ou) (x y dx dy : Int32) : Ct l 9 0 163 [.int x, .int y, .int dx, .int dy] M o (rI (cond (lnF x y dx dy) 1 0) M o) nX := by
  refine ct_plain hl ok163 (by decide) (by decide) rfl rfl (by decide) (Nat.le_of_ble_eq_true rfl) (fun G hG => hG 0 _ _ _ _ _ ?_)
  have no : lnF x y dx dy = false → G 18 [some (.int x), some (.int y), some (.int dx), some (.int dy)] [] M o 0 := by
    intro h
    refine hG 18 _ _ _ _ _ ?_
    exact ⟨bz0, ⟨by rw [h]; rfl, rfl, rfl⟩, Nat.le_refl _⟩
  refine clI (c_X8_isPlace hl M o x) (by decide) (by decide) ⟨fun h => no ?_, fun h1 => clI (c_X8_isPlace hl M o y) (by decide) (by decide) ⟨fun h => no ?_, fun h2 => clI (c_X8_isPlace hl M o dx) (by decide) (by decide) ⟨fun h => no ?_, fun h3 => clI (c_X8_isPlace hl M o dy) (by decide) (by decide) ⟨fun h => no ?_, fun h4 => ⟨fun h5 => ?_, fun h5 => ⟨fun h6 => no ?_, fun h6 => ?_⟩⟩⟩⟩⟩⟩
  · unfold lnF; rw [cond_z h]; rfl
  · unfold lnF; rw [cond_z h]; simp
  · unfold lnF; rw [cond_z h]; simp
  · unfold lnF; rw [cond_z h]; simp
  · refine hG 16 _ _ _ _ _ ?_
    refine hG 19 _ _ _ _ _ ?_
    have : lnF x y dx dy = true := by unfold lnF; rw [cond_n h1, cond_n h2, cond_n h3, cond_n h4, decide_eq_false h5]; rfl
    exact ⟨bz1, ⟨by rw [this]; rfl, rfl, rfl⟩, Nat.le_refl _⟩
  · unfold lnF; rw [decide_eq_true h5, decide_eq_true h6]; simp
  · refine hG 19 _ _ _ _ _ ?_
    have : lnF x y dx dy = true := by unfold lnF; rw [cond_n h1, cond_n h2, cond_n h3, cond_n h4, decide_eq_false h6]; simp
    exact ⟨bz1, ⟨by rw [this]; rfl, rfl, rfl⟩, Nat.le_refl _⟩
abbrev mAl (M : Mem) : Nat → Int64 := alF (M 61) (M 62) (M 11 47) (M 11 48)
abbrev mFr (M : Mem) : Nat → Int64 := frF (M 59) (M 60) (M 11 45) (M 11 46)
abbrev mGb (M : Mem) : Nat → Nat → Bool := gbF (mAl M) (mFr M) (M 61) (M 62)
abbrev mRg (M : Mem) (n : Nat) : Option Nat := rgF (mAl M) (mGb M) n
theorem c_X8_along {l : Launch} (hl : l.stackTraces = false) (M : Mem) (o : Ou) {i : Nat} (hi : i < 8) : Ct l 8 0 166 [.ref 11, .int (nI i)] M o (rJ (mAl M i) M o) nX := by
  have e1 : (nI i).toNatClampNeg = i := nI_clamp (by omega)
  have e2 : vp_in (nI i) 8 := vp_in_nI hi (by decide)
  refine ct_plain hl ok166 (by decide) (by decide) rfl rfl (by decide) (Nat.le_of_ble_eq_true rfl) (fun G hG => hG 0 _ _ _ _ _ ?_)
  refine ⟨e2, e2, ⟨?_, rfl, rfl⟩, Nat.le_refl _⟩
  rw [e1]; rfl
theorem c_X8_way {l : Launch} (hl : l.stackTraces = false) (M : Mem) (o : Ou) {i : Nat} (hi : i < 8) : Ct l 8 0 167 [.ref 11, .int (nI i)] M o (rJ (sqF (M 61 i) (M 62 i)) M o) nX := by
  have e1 : (nI i).toNatClampNeg = i := nI_clamp (by omega)
  have e2 : vp_in (nI i) 8 := vp_in_nI hi (by decide)
  refine ct_plain hl ok167 (by decide) (by decide) rfl rfl (by decide) (Nat.le_of_ble_eq_true rfl) (fun G hG => hG 0 _ _ _ _ _ ?_)
  refine ⟨e2, e2, e2, e2, ⟨?_, rfl, rfl⟩, Nat.le_refl _⟩
  rw [e1]; rfl
theorem c_X8_far {l : Launch} (hl : l.stackTraces = false) (M : Mem) (o : Ou) {i : Nat} (hi : i < 8) : Ct l 8 0 168 [.ref 11, .int (nI i)] M o (rJ (mFr M i) M o) nX := by
  have e1 : (nI i).toNatClampNeg = i := nI_clamp (by omega)
  have e2 : vp_in (nI i) 8 := vp_in_nI hi (by decide)
  refine ct_plain hl ok168 (by decide) (by decide) rfl rfl (by decide) (Nat.le_of_ble_eq_true rfl) (fun G hG => hG 0 _ _ _ _ _ ?_)
  refine ⟨e2, e2, ⟨?_, rfl, rfl⟩, Nat.le_refl _⟩
  rw [e1]; rfl
theorem c_X8_isAhead {l : Launch} (hl : l.stackTraces = false) (M : Mem) (o : Ou) {i j : Nat} (hi : i < 8) (hj : j < 8) : Ct l 9 0 169 [.ref 11, .int (nI i), .int (nI j)] M o (rI (cond (mGb M i j) 1 0) M o) nX := by
  refine ct_plain hl ok169 (by decide) (by decide) rfl rfl (by decide) (Nat.le_of_ble_eq_true rfl) (fun G hG => hG 0 _ _ _ _ _ ?_)
  refine clJ (c_X8_along hl M o hi) (by decide) (by decide) (clJ (c_X8_along hl M o hi) (by decide) (by decide) (clJ (c_X8_way hl M o hj) (by decide) (by decide) ?_))
  refine clJ (c_X8_along hl M o hj) (by decide) (by decide) (clJ (c_X8_along hl M o hj) (by decide) (by decide) (clJ (c_X8_way hl M o hi) (by decide) (by decide) ?_))
  refine ⟨fun h => ?_, fun h => ⟨fun h2 => ?_, fun h2 => ?_⟩⟩
  · refine hG 36 _ _ _ _ _ ?_
    have h := (lg_cmp_eq _ _).mp h
    refine clJ (c_X8_far hl M o hi) (by decide) (by decide) (clJ (c_X8_far hl M o hj) (by decide) (by decide) ⟨fun h2 => ?_, fun h2 => ?_⟩)
    · refine hG 46 _ _ _ _ _ ?_
      have h2 := (lg_cmp_ge _ _).mp h2
      exact ⟨bz0, ⟨by unfold mGb gbF; rw [if_pos h, decide_eq_false (Int64.not_lt.mpr h2)]; rfl, rfl, rfl⟩, Nat.le_refl _⟩
    · refine hG 47 _ _ _ _ _ ?_
      have h2 : ¬ _ := fun q => h2 ((lg_cmp_ge _ _).mpr q)
      exact ⟨bz1, ⟨by unfold mGb gbF; rw [if_pos h, decide_eq_true (Int64.not_le.mp h2)]; rfl, rfl, rfl⟩, Nat.le_refl _⟩
  · refine hG 34 _ _ _ _ _ ?_
    refine hG 47 _ _ _ _ _ ?_
    have h : ¬ _ := fun q => h ((lg_cmp_eq _ _).mpr q)
    have h2 := (lg_cmp_le _ _).mp h2
    exact ⟨bz0, ⟨by unfold mGb gbF; rw [if_neg h, decide_eq_false (Int64.not_lt.mpr h2)]; rfl, rfl, rfl⟩, Nat.le_refl _⟩
  · refine hG 47 _ _ _ _ _ ?_
    have h : ¬ _ := fun q => h ((lg_cmp_eq _ _).mpr q)
    have h2 : ¬ _ := fun q => h2 ((lg_cmp_le _ _).mpr q)
    exact ⟨bz1, ⟨by unfold mGb gbF; rw [if_neg h, decide_eq_true (Int64.not_le.mp h2)]; rfl, rfl, rfl⟩, Nat.le_refl _⟩
theorem oI_neg {r : Option Nat} (h : oI r < 0) (hr : ∀ b, r = some b → b < 2 ^ 31) : r = none := by
  cases r with
  | none => rfl
  | some b => exact absurd h (nI_pos (hr b rfl))
theorem oI_pos {r : Option Nat} (h : ¬ oI r < 0) : ∃ b, r = some b := by
  cases r with
  | none => exact absurd (by decide) h
  | some b => exact ⟨b, rfl⟩
theorem c_X8_rightOf {l : Launch} (hl : l.stackTraces = false) (M : Mem) (o : Ou) {n : Nat} (hf : M 11 49 = nI n) (hn : n ≤ 8) : Ct l 10 0 170 [.ref 11] M o (rI (oI (mRg M n)) M o) nX := by
  refine ct_plain hl ok170 (by decide) (by decide) rfl rfl (by decide) (Nat.le_of_ble_eq_true rfl) (fun G hG => hG 0 _ _ _ _ _ ?_)
  have key : ∀ m j, j + m = n → G 5 [some (.ref 11), some (.int (oI (mRg M j))), some (.int (nI j))] [] M o 0 := by
    intro m
    induction m with
    | zero =>
      intro j hj
      refine hG 5 _ _ _ _ _ ?_
      refine ⟨fun _ => ?_, fun h => absurd (by rw [hf]; exact nI_le (by omega) (by omega)) h⟩
      refine hG 26 _ _ _ _ _ ?_
      rw [show j = n by omega]
      exact ⟨⟨rfl, rfl, rfl⟩, Nat.le_refl _⟩
    | succ m ih =>
      intro j hj
      have hnx := ih (j + 1) (by omega)
      rw [← nI_1] at hnx
      refine hG 5 _ _ _ _ _ ?_
      refine ⟨fun h => absurd (by rw [← hf]; exact h) (nI_ge (a := j) (b := n) (by omega) (by omega)), fun _ => clJ (c_X8_along hl M o (by omega)) (by decide) (by decide) ⟨fun h => ?_, fun h => ⟨fun h2 => ?_, fun h2 => ?_⟩⟩⟩
      · refine hG 24 _ _ _ _ _ ?_
        have h : ¬ 0 < mAl M j := Int64.not_lt.mpr ((lg_cmp_le _ _).mp h)
        have e : mRg M (j + 1) = mRg M j := by
          show (match rgF (mAl M) (mGb M) j with | none => _ | some b => _) = rgF (mAl M) (mGb M) j
          cases hr : rgF (mAl M) (mGb M) j with
          | none => exact if_neg h
          | some b => exact if_neg (fun q => h q.1)
        rw [e] at hnx
        exact hnx
      · refine hG 22 _ _ _ _ _ ?_
        have h : 0 < mAl M j := Int64.not_le.mp (fun q => h ((lg_cmp_le _ _).mpr q))
        have hr : mRg M j = none := oI_neg h2 (fun b hb => by have := rgF_lt hb; omega)
        have e : mRg M (j + 1) = some j := by
          show (match mRg M j with | none => _ | some b => _) = some j
          rw [hr]; exact if_pos h
        rw [e] at hnx
        exact hnx
      · have h : 0 < mAl M j := Int64.not_le.mp (fun q => h ((lg_cmp_le _ _).mpr q))
        obtain ⟨b, hr⟩ := oI_pos h2
        have hb := rgF_lt hr
        rw [hr] at h2 ⊢
        refine clI (c_X8_isAhead hl M o (by omega) (by omega)) (by decide) (by decide) ⟨fun h3 => ?_, fun h3 => ?_⟩
        · refine hG 24 _ _ _ _ _ ?_
          have e : mRg M (j + 1) = some b := by
            show (match mRg M j with | none => _ | some b => _) = some b
            rw [hr]; exact if_neg (fun q => by rw [cond_z h3] at q; exact absurd q.2 (by decide))
          rw [e] at hnx
          exact hnx
        · have e : mRg M (j + 1) = some j := by
            show (match mRg M j with | none => _ | some b => _) = some j
            rw [hr]; exact if_pos ⟨h, cond_n h3⟩
          rw [e] at hnx
          exact hnx
  exact key n 0 (by omega)
theorem c_X8_right {l : Launch} (hl : l.stackTraces = false) (M : Mem) (o : Ou) {n : Nat} (hf : M 11 49 = nI n) (hn : n ≤ 8) : Ct l 11 0 171 [.ref 11] M o (rI (oI (mRg M n)) (mset M 11 0 0) o) nX := by
  refine ct_plain hl ok171 (by decide) (by decide) rfl rfl (by decide) (Nat.le_of_ble_eq_true rfl) (fun G hG => hG 0 _ _ _ _ _ ?_)
  exact clI (c_X8_rightOf hl (mset M 11 0 0) o (n := n) hf hn) (by decide) (by decide) ⟨⟨rfl, rfl, rfl⟩, Nat.le_refl _⟩
