/-! CONTRACTS: Line. -/
def sqF (a b : Int32) : Int64 := a.toInt64 * a.toInt64 + b.toInt64 * b.toInt64
def alF (dx dy : Nat → Int32) (bX bY : Int32) (i : Nat) : Int64 := (dx i).toInt64 * bX.toInt64 + (dy i).toInt64 * bY.toInt64
def frF (xs ys : Nat → Int32) (bX bY : Int32) (i : Nat) : Int64 := sqF (xs i - bX) (ys i - bY)
def gbF (al fr : Nat → Int64) (dx dy : Nat → Int32) (i j : Nat) : Bool :=
  if al i * al i * sqF (dx j) (dy j) = al j * al j * sqF (dx i) (dy i) then decide (fr i < fr j) else decide (al j * al j * sqF (dx i) (dy i) < al i * al i * sqF (dx j) (dy j))
def tnF (xs ys dx dy : Nat → Int32) (i : Nat) (x y : Int32) : Int64 := (dx i).toInt64 * (y - ys i).toInt64 - (dy i).toInt64 * (x - xs i).toInt64
def stF (xs ys dx dy : Nat → Int32) (i j : Nat) : Bool :=
  (decide (tnF xs ys dx dy i (xs j) (ys j) ≤ 0) && decide (0 ≤ tnF xs ys dx dy i (xs j + dx j) (ys j + dy j))) || (decide (0 ≤ tnF xs ys dx dy i (xs j) (ys j)) && decide (tnF xs ys dx dy i (xs j + dx j) (ys j + dy j) ≤ 0))
def mnF (x y : Int32) : Int32 := if y < x then y else x
def mxF (x y : Int32) : Int32 := if x < y then y else x
def ovF (a w b v : Int32) : Bool := decide (mnF a (a + w) ≤ mxF b (b + v)) && decide (mnF b (b + v) ≤ mxF a (a + w))
def mtF (xs ys dx dy : Nat → Int32) (i j : Nat) : Bool := stF xs ys dx dy i j && stF xs ys dx dy j i && ovF (xs i) (dx i) (xs j) (dx j) && ovF (ys i) (dy i) (ys j) (dy j)
theorem c_X0_hasBall {l : Launch} (hl : l.stackTraces = false) (M : Mem) (o : Ou) (hz : bz (M 10 6)) : Ct l 8 0 1 [.ref 10] M o (rI (M 10 6) M o) nX := by
  refine ct_plain hl ok1 (by decide) (by decide) rfl rfl (by decide) (Nat.le_of_ble_eq_true rfl) (fun G hG => hG 0 _ _ _ _ _ ?_)
  exact ⟨hz, ⟨rfl, rfl, rfl⟩, Nat.le_refl _⟩
theorem c_X0_riders {l : Launch} (hl : l.stackTraces = false) (M : Mem) (o : Ou) : Ct l 8 0 3 [.ref 10] M o (rI (M 10 5) M o) nX := by
  refine ct_plain hl ok3 (by decide) (by decide) rfl rfl (by decide) (Nat.le_of_ble_eq_true rfl) (fun G hG => hG 0 _ _ _ _ _ ?_)
  exact ⟨⟨rfl, rfl, rfl⟩, Nat.le_refl _⟩
theorem c_X0_isFull {l : Launch} (hl : l.stackTraces = false) (M : Mem) (o : Ou) : Ct l 8 0 2 [.ref 10] M o (rI (if M 10 5 < 8 then 0 else 1) M o) nX := by
  refine ct_plain hl ok2 (by decide) (by decide) rfl rfl (by decide) (Nat.le_of_ble_eq_true rfl) (fun G hG => hG 0 _ _ _ _ _ ?_)
  refine ⟨fun h => ?_, fun h => ?_⟩
  · refine hG 6 _ _ _ _ _ ?_
    exact ⟨bz0, ⟨by rw [if_pos h], rfl, rfl⟩, Nat.le_refl _⟩
  · refine hG 7 _ _ _ _ _ ?_
    exact ⟨bz1, ⟨by rw [if_neg h], rfl, rfl⟩, Nat.le_refl _⟩
theorem c_X0_placeBall {l : Launch} (hl : l.stackTraces = false) (M : Mem) (o : Ou) (x y dx dy : Int32) : Ct l 8 0 4 [.ref 10, .int x, .int y, .int dx, .int dy] M o (rV (mset (mset (mset (mset (mset (mset M 10 6 1) 10 7 x) 10 8 y) 10 9 dx) 10 10 dy) 10 5 0) o) nX := by
  refine ct_plain hl ok4 (by decide) (by decide) rfl rfl (by decide) (Nat.le_of_ble_eq_true rfl) (fun G hG => hG 0 _ _ _ _ _ ?_)
  exact ⟨bz1, ⟨rfl, rfl, rfl⟩, Nat.le_refl _⟩
theorem c_X0_addRider {l : Launch} (hl : l.stackTraces = false) (M : Mem) (o : Ou) {n : Nat} (s x y dx dy : Int32) (hf : M 10 5 = nI n) (hn : n < 8) : Ct l 8 0 5 [.ref 10, .int s, .int x, .int y, .int dx, .int dy] M o (rI (nI n) (mset (mset (mset (mset (mset (mset M 30 n s) 31 n x) 32 n y) 33 n dx) 34 n dy) 10 5 (nI (n + 1))) o) nX := by
  refine ct_plain hl ok5 (by decide) (by decide) rfl rfl (by decide) (Nat.le_of_ble_eq_true rfl) (fun G hG => hG 0 _ _ _ _ _ ?_)
  have e1 : (M 10 5).toNatClampNeg = n := by rw [hf, nI_clamp (by omega)]
  have e2 : vp_in (M 10 5) 8 := by rw [hf]; exact vp_in_nI hn (by decide)
  refine ⟨e2, e2, e2, e2, e2, ⟨?_, ?_, rfl⟩, Nat.le_refl _⟩
  · show some (Value.int (M 10 5 + 1 - 1)) = _
    rw [hf, nI_1, nI_pred]
  · show mset (mset (mset (mset (mset (mset M _ (M 10 5).toNatClampNeg s) _ (M 10 5).toNatClampNeg x) _ (M 10 5).toNatClampNeg y) _ (M 10 5).toNatClampNeg dx) _ (M 10 5).toNatClampNeg dy) _ _ (M 10 5 + 1) = _
    rw [e1, hf, nI_1]
theorem c_X0_squared {l : Launch} (hl : l.stackTraces = false) (M : Mem) (o : Ou) (a b : Int32) : Ct l 8 0 10 [.int a, .int b] M o (rJ (sqF a b) M o) nX := by
  refine ct_plain hl ok10 (by decide) (by decide) rfl rfl (by decide) (Nat.le_of_ble_eq_true rfl) (fun G hG => hG 0 _ _ _ _ _ ?_)
  exact ⟨⟨rfl, rfl, rfl⟩, Nat.le_refl _⟩
abbrev cAl (M : Mem) : Nat → Int64 := alF (M 33) (M 34) (M 10 9) (M 10 10)
abbrev cFr (M : Mem) : Nat → Int64 := frF (M 31) (M 32) (M 10 7) (M 10 8)
abbrev cGb (M : Mem) : Nat → Nat → Bool := gbF (cAl M) (cFr M) (M 33) (M 34)
theorem c_X0_alongBall {l : Launch} (hl : l.stackTraces = false) (M : Mem) (o : Ou) {i : Nat} (hi : i < 8) : Ct l 8 0 7 [.ref 10, .int (nI i)] M o (rJ (cAl M i) M o) nX := by
  have e1 : (nI i).toNatClampNeg = i := nI_clamp (by omega)
  have e2 : vp_in (nI i) 8 := vp_in_nI hi (by decide)
  refine ct_plain hl ok7 (by decide) (by decide) rfl rfl (by decide) (Nat.le_of_ble_eq_true rfl) (fun G hG => hG 0 _ _ _ _ _ ?_)
  refine ⟨e2, e2, ⟨?_, rfl, rfl⟩, Nat.le_refl _⟩
  rw [e1]; rfl
theorem c_X0_fromBall {l : Launch} (hl : l.stackTraces = false) (M : Mem) (o : Ou) {i : Nat} (hi : i < 8) : Ct l 9 0 9 [.ref 10, .int (nI i)] M o (rJ (cFr M i) M o) nX := by
  have e1 : (nI i).toNatClampNeg = i := nI_clamp (by omega)
  have e2 : vp_in (nI i) 8 := vp_in_nI hi (by decide)
  refine ct_plain hl ok9 (by decide) (by decide) rfl rfl (by decide) (Nat.le_of_ble_eq_true rfl) (fun G hG => hG 0 _ _ _ _ _ ?_)
  refine ⟨e2, e2, clJ (c_X0_squared hl M o _ _) (by decide) (by decide) ⟨⟨?_, rfl, rfl⟩, Nat.le_refl _⟩⟩
  rw [e1]; rfl
theorem c_X0_goesBefore {l : Launch} (hl : l.stackTraces = false) (M : Mem) (o : Ou) {i j : Nat} (hi : i < 8) (hj : j < 8) : Ct l 10 0 8 [.ref 10, .int (nI i), .int (nI j)] M o (rI (cond (cGb M i j) 1 0) M o) nX := by
  have e1 : (nI i).toNatClampNeg = i := nI_clamp (by omega)
  have e2 : vp_in (nI i) 8 := vp_in_nI hi (by decide)
  have e3 : (nI j).toNatClampNeg = j := nI_clamp (by omega)
  have e4 : vp_in (nI j) 8 := vp_in_nI hj (by decide)
  refine ct_plain hl ok8 (by decide) (by decide) rfl rfl (by decide) (Nat.le_of_ble_eq_true rfl) (fun G hG => hG 0 _ _ _ _ _ ?_)
  refine clJ (c_X0_alongBall hl M o hi) (by decide) (by decide) (clJ (c_X0_alongBall hl M o hi) (by decide) (by decide) ⟨e4, e4, clJ (c_X0_squared hl M o _ _) (by decide) (by decide) ?_⟩)
  refine clJ (c_X0_alongBall hl M o hj) (by decide) (by decide) (clJ (c_X0_alongBall hl M o hj) (by decide) (by decide) ⟨e2, e2, clJ (c_X0_squared hl M o _ _) (by decide) (by decide) ?_⟩)
  rw [e1, e3]
  refine ⟨fun h => ?_, fun h => ⟨fun h2 => ?_, fun h2 => ?_⟩⟩
  · refine hG 48 _ _ _ _ _ ?_
    have h := (lg_cmp_eq _ _).mp h
    refine clJ (c_X0_fromBall hl M o hi) (by decide) (by decide) (clJ (c_X0_fromBall hl M o hj) (by decide) (by decide) ⟨fun h2 => ?_, fun h2 => ?_⟩)
    · refine hG 58 _ _ _ _ _ ?_
      have h2 := (lg_cmp_ge _ _).mp h2
      exact ⟨bz0, ⟨by unfold cGb gbF; rw [if_pos h, decide_eq_false (Int64.not_lt.mpr h2)]; rfl, rfl, rfl⟩, Nat.le_refl _⟩
    · refine hG 59 _ _ _ _ _ ?_
      have h2 : ¬ _ := fun q => h2 ((lg_cmp_ge _ _).mpr q)
      exact ⟨bz1, ⟨by unfold cGb gbF; rw [if_pos h, decide_eq_true (Int64.not_le.mp h2)]; rfl, rfl, rfl⟩, Nat.le_refl _⟩
  · refine hG 46 _ _ _ _ _ ?_
    have h : ¬ _ := fun q => h ((lg_cmp_eq _ _).mpr q)
    have h2 := (lg_cmp_le _ _).mp h2
    exact ⟨bz0, ⟨by unfold cGb gbF; rw [if_neg h, decide_eq_false (Int64.not_lt.mpr h2)]; rfl, rfl, rfl⟩, Nat.le_refl _⟩
  · refine hG 47 _ _ _ _ _ ?_
    have h : ¬ _ := fun q => h ((lg_cmp_eq _ _).mpr q)
    have h2 : ¬ _ := fun q => h2 ((lg_cmp_le _ _).mpr q)
    exact ⟨bz1, ⟨by unfold cGb gbF; rw [if_neg h, decide_eq_true (Int64.not_le.mp h2)]; rfl, rfl, rfl⟩, Nat.le_refl _⟩
def rgF (al : Nat → Int64) (gb : Nat → Nat → Bool) : Nat → Option Nat
  | 0 => none
  | n + 1 => match rgF al gb n with
    | none => if 0 < al n then some n else none
    | some b => if 0 < al n ∧ gb n b = true then some n else some b
theorem rgF_lt {al : Nat → Int64} {gb : Nat → Nat → Bool} : ∀ {n b : Nat}, rgF al gb n = some b → b < n := by
  intro n
  induction n with
  | zero => intro b h; cases h
  | succ n ih =>
    intro b h
    unfold rgF at h
    split at h
    · split at h
      · cases h; omega
      · cases h
    · rename_i c hc
      have := ih hc
      split at h <;> (cases h; omega)
def oI : Option Nat → Int32
  | none => -1
  | some i => nI i
theorem cond_z {b : Bool} (h : (cond b (1 : Int32) 0) = 0) : b = false := by cases b <;> simp at h ⊢
theorem cond_n {b : Bool} (h : ¬ (cond b (1 : Int32) 0) = 0) : b = true := by cases b <;> simp at h ⊢
abbrev cRg (M : Mem) (n : Nat) : Option Nat := rgF (cAl M) (cGb M) n
theorem c_X0_firstByRight {l : Launch} (hl : l.stackTraces = false) (M : Mem) (o : Ou) {n : Nat} (hf : M 10 5 = nI n) (hn : n ≤ 8) : Ct l 11 0 6 [.ref 10] M o (rI (oI (cRg M n)) M o) nX := by
  refine ct_plain hl ok6 (by decide) (by decide) rfl rfl (by decide) (Nat.le_of_ble_eq_true rfl) (fun G hG => hG 0 _ _ _ _ _ ?_)
  have key : ∀ m j, j + m = n → G 5 [some (.ref 10), some (.int (oI (cRg M j))), some (.int (nI j))] [] M o 0 := by
    intro m
    induction m with
    | zero =>
      intro j hj
      refine hG 5 _ _ _ _ _ ?_
      refine ⟨fun _ => ?_, fun h => absurd (by rw [hf]; exact nI_le (by omega) (by omega)) h⟩
      refine hG 27 _ _ _ _ _ ?_
      rw [show j = n by omega]
      exact ⟨⟨rfl, rfl, rfl⟩, Nat.le_refl _⟩
    | succ m ih =>
      intro j hj
      have hnx := ih (j + 1) (by omega)
      rw [← nI_1] at hnx
      refine hG 5 _ _ _ _ _ ?_
      refine ⟨fun h => absurd (by rw [← hf]; exact h) (nI_ge (a := j) (b := n) (by omega) (by omega)), fun _ => clJ (c_X0_alongBall hl M o (by omega)) (by decide) (by decide) ⟨fun h => ?_, fun h => ⟨fun h2 => ?_, fun h2 => ?_⟩⟩⟩
      · refine hG 25 _ _ _ _ _ ?_
        have h : ¬ 0 < cAl M j := Int64.not_lt.mpr ((lg_cmp_le _ _).mp h)
        have e : cRg M (j + 1) = cRg M j := by
          show (match rgF (cAl M) (cGb M) j with | none => _ | some b => _) = rgF (cAl M) (cGb M) j
          cases hr : rgF (cAl M) (cGb M) j with
          | none => exact if_neg h
          | some b => exact if_neg (fun q => h q.1)
        rw [e] at hnx
        exact hnx
      · refine hG 23 _ _ _ _ _ ?_
        have h : 0 < cAl M j := Int64.not_le.mp (fun q => h ((lg_cmp_le _ _).mpr q))
        have hr : cRg M j = none := by
          cases hr : cRg M j with
          | none => rfl
          | some b => rw [hr] at h2; exact absurd h2 (im1 b (by have := rgF_lt hr; omega))
        have e : cRg M (j + 1) = some j := by
          show (match cRg M j with | none => _ | some b => _) = some j
          rw [hr]; exact if_pos h
        rw [e] at hnx
        exact hnx
      · have h : 0 < cAl M j := Int64.not_le.mp (fun q => h ((lg_cmp_le _ _).mpr q))
        obtain ⟨b, hr⟩ : ∃ b, cRg M j = some b := by
          cases hr : cRg M j with
          | none => rw [hr] at h2; exact absurd rfl h2
          | some b => exact ⟨b, rfl⟩
        have hb := rgF_lt hr
        rw [hr] at h2 ⊢
        refine clI (c_X0_goesBefore hl M o (by omega) (by omega)) (by decide) (by decide) ⟨fun h3 => ?_, fun h3 => ?_⟩
        · refine hG 25 _ _ _ _ _ ?_
          have e : cRg M (j + 1) = some b := by
            show (match cRg M j with | none => _ | some b => _) = some b
            rw [hr]; exact if_neg (fun q => by rw [cond_z h3] at q; exact absurd q.2 (by decide))
          rw [e] at hnx
          exact hnx
        · have e : cRg M (j + 1) = some j := by
            show (match cRg M j with | none => _ | some b => _) = some j
            rw [hr]; exact if_pos ⟨h, cond_n h3⟩
          rw [e] at hnx
          exact hnx
  exact key n 0 (by omega)
theorem c_X0_turn {l : Launch} (hl : l.stackTraces = false) (M : Mem) (o : Ou) {i : Nat} (x y : Int32) (hi : i < 8) : Ct l 8 0 14 [.ref 10, .int (nI i), .int x, .int y] M o (rJ (tnF (M 31) (M 32) (M 33) (M 34) i x y) M o) nX := by
  have e1 : (nI i).toNatClampNeg = i := nI_clamp (by omega)
  have e2 : vp_in (nI i) 8 := vp_in_nI hi (by decide)
  refine ct_plain hl ok14 (by decide) (by decide) rfl rfl (by decide) (Nat.le_of_ble_eq_true rfl) (fun G hG => hG 0 _ _ _ _ _ ?_)
  refine ⟨e2, e2, e2, e2, ⟨?_, rfl, rfl⟩, Nat.le_refl _⟩
  rw [e1]; rfl
theorem c_X0_straddles {l : Launch} (hl : l.stackTraces = false) (M : Mem) (o : Ou) {i j : Nat} (hi : i < 8) (hj : j < 8) : Ct l 9 0 13 [.ref 10, .int (nI i), .int (nI j)] M o (rI (cond (stF (M 31) (M 32) (M 33) (M 34) i j) 1 0) M o) nX := by
  have e3 : (nI j).toNatClampNeg = j := nI_clamp (by omega)
  have e4 : vp_in (nI j) 8 := vp_in_nI hj (by decide)
  refine ct_plain hl ok13 (by decide) (by decide) rfl rfl (by decide) (Nat.le_of_ble_eq_true rfl) (fun G hG => hG 0 _ _ _ _ _ ?_)
  refine ⟨e4, e4, clJ (c_X0_turn hl M o _ _ hi) (by decide) (by decide) ⟨e4, e4, e4, e4, clJ (c_X0_turn hl M o _ _ hi) (by decide) (by decide) ?_⟩⟩
  rw [e3]
  have hst : ∀ v : Bool, (v = true ↔ (tnF (M 31) (M 32) (M 33) (M 34) i (M 31 j) (M 32 j) ≤ 0 ∧ 0 ≤ tnF (M 31) (M 32) (M 33) (M 34) i (M 31 j + M 33 j) (M 32 j + M 34 j)) ∨ (0 ≤ tnF (M 31) (M 32) (M 33) (M 34) i (M 31 j) (M 32 j) ∧ tnF (M 31) (M 32) (M 33) (M 34) i (M 31 j + M 33 j) (M 32 j + M 34 j) ≤ 0)) → some (Value.int (cond v 1 0)) = some (Value.int (cond (stF (M 31) (M 32) (M 33) (M 34) i j) 1 0)) := by
    intro v hv
    have : stF (M 31) (M 32) (M 33) (M 34) i j = v := by
      rw [Bool.eq_iff_iff, hv]
      simp only [stF, Bool.or_eq_true, Bool.and_eq_true, decide_eq_true_eq]
    rw [this]
  refine ⟨fun h => ?_, fun h => ⟨fun h2 => ?_, fun h2 => ?_⟩⟩
  · have h := (lg_cmp_gt _ _).mp h
    refine hG 42 _ _ _ _ _ ?_
    refine ⟨fun h3 => ?_, fun h3 => ⟨fun h4 => ?_, fun h4 => ?_⟩⟩
    · exact absurd ((lg_cmp_lt _ _).mp h3) (Int64.not_lt.mpr (Int64.le_of_lt h))
    · refine hG 52 _ _ _ _ _ ?_
      have h4 := (lg_cmp_gt _ _).mp h4
      exact ⟨bz0, ⟨hst false ⟨fun q => absurd q (by decide), fun q => q.elim (fun q => absurd h (Int64.not_lt.mpr q.1)) (fun q => absurd h4 (Int64.not_lt.mpr q.2))⟩, rfl, rfl⟩, Nat.le_refl _⟩
    · refine hG 53 _ _ _ _ _ ?_
      have h4 := Int64.not_lt.mp (fun q => h4 ((lg_cmp_gt _ _).mpr q))
      exact ⟨bz1, ⟨hst true ⟨fun _ => Or.inr ⟨Int64.le_of_lt h, h4⟩, fun _ => rfl⟩, rfl, rfl⟩, Nat.le_refl _⟩
  · have h := Int64.not_lt.mp (fun q => h ((lg_cmp_gt _ _).mpr q))
    have h2 := (lg_cmp_ge _ _).mp h2
    refine hG 50 _ _ _ _ _ ?_
    refine hG 53 _ _ _ _ _ ?_
    exact ⟨bz1, ⟨hst true ⟨fun _ => Or.inl ⟨h, h2⟩, fun _ => rfl⟩, rfl, rfl⟩, Nat.le_refl _⟩
  · have h := Int64.not_lt.mp (fun q => h ((lg_cmp_gt _ _).mpr q))
    have h2 := Int64.not_le.mp (fun q => h2 ((lg_cmp_ge _ _).mpr q))
    refine ⟨fun h3 => ?_, fun h3 => ⟨fun h4 => ?_, fun h4 => ?_⟩⟩
    · refine hG 52 _ _ _ _ _ ?_
      have h3 := (lg_cmp_lt _ _).mp h3
      exact ⟨bz0, ⟨hst false ⟨fun q => absurd q (by decide), fun q => q.elim (fun q => absurd h2 (Int64.not_lt.mpr q.2)) (fun q => absurd h3 (Int64.not_lt.mpr q.1))⟩, rfl, rfl⟩, Nat.le_refl _⟩
    · have h4 := (lg_cmp_gt _ _).mp h4
      exact absurd h4 (Int64.not_lt.mpr (Int64.le_of_lt h2))
    · refine hG 53 _ _ _ _ _ ?_
      have h3 := Int64.not_lt.mp (fun q => h3 ((lg_cmp_lt _ _).mpr q))
      exact ⟨bz1, ⟨hst true ⟨fun _ => Or.inr ⟨h3, Int64.le_of_lt h2⟩, fun _ => rfl⟩, rfl, rfl⟩, Nat.le_refl _⟩
theorem c_X0_overlap {l : Launch} (hl : l.stackTraces = false) (M : Mem) (o : Ou) (a w b v : Int32) : Ct l 8 0 15 [.int a, .int w, .int b, .int v] M o (rI (cond (ovF a w b v) 1 0) M o) nX := by
  refine ct_plain hl ok15 (by decide) (by decide) rfl rfl (by decide) (Nat.le_of_ble_eq_true rfl) (fun G hG => hG 0 _ _ _ _ _ ?_)
  refine ⟨fun h => ?_, fun h => ⟨fun h2 => ?_, fun h2 => ?_⟩⟩
  · refine hG 32 _ _ _ _ _ ?_
    have : ovF a w b v = false := by
      rw [Bool.eq_false_iff]; simp only [ovF, Bool.and_eq_true, decide_eq_true_eq, ne_eq]; exact fun q => absurd h (Int32.not_lt.mpr q.1)
    exact ⟨bz0, ⟨by rw [this]; rfl, rfl, rfl⟩, Nat.le_refl _⟩
  · refine hG 32 _ _ _ _ _ ?_
    have : ovF a w b v = false := by
      rw [Bool.eq_false_iff]; simp only [ovF, Bool.and_eq_true, decide_eq_true_eq, ne_eq]; exact fun q => absurd h2 (Int32.not_lt.mpr q.2)
    exact ⟨bz0, ⟨by rw [this]; rfl, rfl, rfl⟩, Nat.le_refl _⟩
  · refine hG 33 _ _ _ _ _ ?_
    have : ovF a w b v = true := by
      simp only [ovF, Bool.and_eq_true, decide_eq_true_eq]; exact ⟨Int32.not_lt.mp h, Int32.not_lt.mp h2⟩
    exact ⟨bz1, ⟨by rw [this]; rfl, rfl, rfl⟩, Nat.le_refl _⟩
abbrev cMt (M : Mem) : Nat → Nat → Bool := mtF (M 31) (M 32) (M 33) (M 34)
theorem c_X0_meets {l : Launch} (hl : l.stackTraces = false) (M : Mem) (o : Ou) {i j : Nat} (hi : i < 8) (hj : j < 8) : Ct l 10 0 12 [.ref 10, .int (nI i), .int (nI j)] M o (rI (cond (cMt M i j) 1 0) M o) nX := by
  have e1 : (nI i).toNatClampNeg = i := nI_clamp (by omega)
  have e2 : vp_in (nI i) 8 := vp_in_nI hi (by decide)
  have e3 : (nI j).toNatClampNeg = j := nI_clamp (by omega)
  have e4 : vp_in (nI j) 8 := vp_in_nI hj (by decide)
  refine ct_plain hl ok12 (by decide) (by decide) rfl rfl (by decide) (Nat.le_of_ble_eq_true rfl) (fun G hG => hG 0 _ _ _ _ _ ?_)
  have no : cMt M i j = false → G 48 [some (.ref 10), some (.int (nI i)), some (.int (nI j))] [] M o 0 := by
    intro h
    refine hG 48 _ _ _ _ _ ?_
    exact ⟨bz0, ⟨by rw [h]; rfl, rfl, rfl⟩, Nat.le_refl _⟩
  refine clI (c_X0_straddles hl M o hi hj) (by decide) (by decide) ⟨fun h => no ?_, fun h => clI (c_X0_straddles hl M o hj hi) (by decide) (by decide) ⟨fun h2 => no ?_, fun h2 => ⟨e2, e2, e4, e4, clI (c_X0_overlap hl M o _ _ _ _) (by decide) (by decide) ⟨fun h3 => no ?_, fun h3 => ⟨e2, e2, e4, e4, clI (c_X0_overlap hl M o _ _ _ _) (by decide) (by decide) ⟨fun h4 => no ?_, fun h4 => ?_⟩⟩⟩⟩⟩⟩
  · unfold cMt mtF; rw [cond_z h]; rfl
  · unfold cMt mtF; rw [cond_z h2]; simp
  · rw [e1, e3] at h3; unfold cMt mtF; rw [cond_z h3]; simp
  · rw [e1, e3] at h4; unfold cMt mtF; rw [cond_z h4]; simp
  · refine hG 49 _ _ _ _ _ ?_
    rw [e1, e3] at h3 h4
    have : cMt M i j = true := by unfold cMt mtF; rw [cond_n h, cond_n h2, cond_n h3, cond_n h4]; rfl
    exact ⟨bz1, ⟨by rw [this]; rfl, rfl, rfl⟩, Nat.le_refl _⟩
def cnB (P : Nat → Bool) : Nat → Nat
  | 0 => 0
  | n + 1 => cnB P n + (if P n = true then 1 else 0)
theorem cnB_le (P : Nat → Bool) : ∀ n, cnB P n ≤ n := by
  intro n
  induction n with
  | zero => exact Nat.le_refl _
  | succ n ih => simp only [cnB]; split <;> omega
/-- the first from j on, among m, with P and with k such before it -/
def fkS (P : Nat → Bool) (k : Int32) : Nat → Nat → Option Nat
  | 0, _ => none
  | m + 1, j => if P j = true ∧ nI (cnB P j) = k then some j else fkS P k m (j + 1)
abbrev foP (sd : Nat → Int32) (mt : Nat → Nat → Bool) (h : Nat) : Nat → Bool := fun i => !decide (sd i = sd h) && mt i h
def foF (sd : Nat → Int32) (mt : Nat → Nat → Bool) (r : Option Nat) (k : Int32) (n : Nat) : Int32 := match r with
  | none => -1
  | some h => oI (fkS (foP sd mt h) k n 0)
theorem c_X0_crosser {l : Launch} (hl : l.stackTraces = false) (M : Mem) (o : Ou) {n : Nat} (k : Int32) (hf : M 10 5 = nI n) (hn : n ≤ 8) : Ct l 12 0 11 [.ref 10, .int k] M o (rI (foF (M 30) (cMt M) (cRg M n) k n) M o) nX := by
  refine ct_plain hl ok11 (by decide) (by decide) rfl rfl (by decide) (Nat.le_of_ble_eq_true rfl) (fun G hG => hG 0 _ _ _ _ _ ?_)
  refine clI (c_X0_firstByRight hl M o hf hn) (by decide) (by decide) ⟨fun h => ?_, fun h => ?_⟩
  · refine hG 8 _ _ _ _ _ ?_
    obtain ⟨h0, hr⟩ : ∃ b, cRg M n = some b := by
      cases hr : cRg M n with
      | none => rw [hr] at h; exact absurd rfl h
      | some b => exact ⟨b, rfl⟩
    have hb := rgF_lt hr
    have e3 : (nI h0).toNatClampNeg = h0 := nI_clamp (by omega)
    have e4 : vp_in (nI h0) 8 := vp_in_nI (by omega) (by decide)
    rw [hr]
    have key : ∀ m j, j + m = n → oI (fkS (foP (M 30) (cMt M) h0) k m j) = foF (M 30) (cMt M) (cRg M n) k n → G 13 [some (.ref 10), some (.int k), some (.int (nI h0)), some (.int (nI (cnB (foP (M 30) (cMt M) h0) j))), some (.int (nI j))] [] M o 0 := by
      intro m
      induction m with
      | zero =>
        intro j hj he
        refine hG 13 _ _ _ _ _ ?_
        refine ⟨fun _ => ?_, fun h => absurd (by rw [hf]; exact nI_le (by omega) (by omega)) h⟩
        refine hG 39 _ _ _ _ _ ?_
        exact ⟨⟨by rw [← he]; rfl, rfl, rfl⟩, Nat.le_refl _⟩
      | succ m ih =>
        intro j hj he
        have hnx := ih (j + 1) (by omega)
        rw [← nI_1] at hnx
        have e1 : (nI j).toNatClampNeg = j := nI_clamp (by omega)
        have e2 : vp_in (nI j) 8 := vp_in_nI (by omega) (by decide)
        have no : foP (M 30) (cMt M) h0 j = false → G 37 [some (.ref 10), some (.int k), some (.int (nI h0)), some (.int (nI (cnB (foP (M 30) (cMt M) h0) j))), some (.int (nI j))] [] M o 0 := by
          intro hP
          refine hG 37 _ _ _ _ _ ?_
          rw [cnB, hP, if_neg (by decide), Nat.add_zero] at hnx
          refine hnx ?_
          rw [← he, fkS, hP, if_neg (fun q => absurd q.1 (by decide))]
        refine hG 13 _ _ _ _ _ ?_
        refine ⟨fun h => absurd (by rw [← hf]; exact h) (nI_ge (a := j) (b := n) (by omega) (by omega)), fun _ => ⟨e2, e4, fun h1 => no ?_, fun h1 => clI (c_X0_meets hl M o (by omega) (by omega)) (by decide) (by decide) ⟨fun h2 => no ?_, fun h2 => ⟨fun h3 => ?_, fun h3 => ?_⟩⟩⟩⟩
        · rw [e1, e3] at h1
          unfold foP; rw [decide_eq_true h1]; rfl
        · unfold foP; rw [cond_z h2]; simp
        · have hP : foP (M 30) (cMt M) h0 j = true := by
            rw [e1, e3] at h1
            unfold foP; rw [decide_eq_false h1, cond_n h2]; rfl
          refine hG 36 _ _ _ _ _ ?_
          rw [cnB, hP, if_pos rfl, ← nI_1] at hnx
          refine hnx ?_
          rw [← he, fkS, hP, if_neg (fun q => h3 q.2)]
        · have hP : foP (M 30) (cMt M) h0 j = true := by
            rw [e1, e3] at h1
            unfold foP; rw [decide_eq_false h1, cond_n h2]; rfl
          exact ⟨⟨by rw [← he, fkS, if_pos ⟨hP, h3⟩]; rfl, rfl, rfl⟩, Nat.le_refl _⟩
    exact key n 0 (by omega) (by rw [hr]; rfl)
  · have hr : cRg M n = none := by
      cases hr : cRg M n with
      | none => rfl
      | some b => rw [hr] at h; exact absurd h (im1 b (by have := rgF_lt hr; omega))
    exact ⟨⟨by rw [hr]; rfl, rfl, rfl⟩, Nat.le_refl _⟩
