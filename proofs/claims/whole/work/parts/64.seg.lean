/-! THE LINE: stretches meet alike. -/
def bt (q p : Int) : Prop := (0 ≤ p ∧ p ≤ q) ∨ (q ≤ p ∧ p ≤ 0)
theorem btmul {k p s q : Int} (hk : k ≠ 0) (h : k * p = s * q) (hs : bt k s) : bt q p := by
  unfold bt at *
  rcases Int.lt_or_gt_of_ne hk with w | w
  · have hs : k ≤ s ∧ s ≤ 0 := by omega
    rcases Int.le_total 0 q with hq | hq
    · left
      constructor
      · refine Classical.byContradiction (fun z => ?_)
        have h1 : 0 < k * p := Int.mul_pos_of_neg_of_neg w (by omega)
        have h2 : s * q ≤ 0 := Int.mul_nonpos_of_nonpos_of_nonneg hs.2 hq
        omega
      · refine Classical.byContradiction (fun z => ?_)
        have h1 : k * p < k * q := Int.mul_lt_mul_of_neg_left (by omega) w
        have h2 : k * q ≤ s * q := Int.mul_le_mul_of_nonneg_right hs.1 hq
        omega
    · right
      constructor
      · refine Classical.byContradiction (fun z => ?_)
        have h1 : k * q < k * p := Int.mul_lt_mul_of_neg_left (by omega) w
        have h2 : s * q ≤ k * q := Int.mul_le_mul_of_nonpos_right hs.1 hq
        omega
      · refine Classical.byContradiction (fun z => ?_)
        have h1 : k * p < 0 := Int.mul_neg_of_neg_of_pos w (by omega)
        have h2 : 0 ≤ s * q := Int.mul_nonneg_of_nonpos_of_nonpos hs.2 hq
        omega
  · have hs : 0 ≤ s ∧ s ≤ k := by omega
    rcases Int.le_total 0 q with hq | hq
    · left
      constructor
      · refine Classical.byContradiction (fun z => ?_)
        have h1 : k * p < 0 := Int.mul_neg_of_pos_of_neg w (by omega)
        have h2 : 0 ≤ s * q := Int.mul_nonneg hs.1 hq
        omega
      · refine Classical.byContradiction (fun z => ?_)
        have h1 : k * q < k * p := Int.mul_lt_mul_of_pos_left (by omega) w
        have h2 : s * q ≤ k * q := Int.mul_le_mul_of_nonneg_right hs.2 hq
        omega
    · right
      constructor
      · refine Classical.byContradiction (fun z => ?_)
        have h1 : k * p < k * q := Int.mul_lt_mul_of_pos_left (by omega) w
        have h2 : k * q ≤ s * q := Int.mul_le_mul_of_nonpos_right hs.2 hq
        omega
      · refine Classical.byContradiction (fun z => ?_)
        have h1 : 0 < k * p := Int.mul_pos w (by omega)
        have h2 : s * q ≤ 0 := Int.mul_nonpos_of_nonneg_of_nonpos hs.1 hq
        omega
def ops (a b : Int) : Prop := (a ≤ 0 ∧ 0 ≤ b) ∨ (0 ≤ a ∧ b ≤ 0)
def ovI (u w v : Int) : Prop := min 0 u ≤ max w (w + v) ∧ min w (w + v) ≤ max 0 u
theorem bt_ops {k s : Int} (h : bt k s) : ops s (s - k) := by unfold bt at h; unfold ops; omega
theorem ops_bt {k s : Int} (h : ops s (s - k)) : bt k s := by unfold ops at h; unfold bt; omega
theorem mean_le {k m a b c : Int} (h0 : 0 ≤ m) (h1 : m ≤ k) (ha : a ≤ c) (hb : b ≤ c) : (k - m) * a + m * b ≤ k * c := by
  have e1 : (k - m) * a ≤ (k - m) * c := Int.mul_le_mul_of_nonneg_left ha (by omega)
  have e2 : m * b ≤ m * c := Int.mul_le_mul_of_nonneg_left hb h0
  have e3 : (k - m) * c + m * c = k * c := by grind
  omega
theorem le_mean {k m a b c : Int} (h0 : 0 ≤ m) (h1 : m ≤ k) (ha : c ≤ a) (hb : c ≤ b) : k * c ≤ (k - m) * a + m * b := by
  have e1 : (k - m) * c ≤ (k - m) * a := Int.mul_le_mul_of_nonneg_left ha (by omega)
  have e2 : m * c ≤ m * b := Int.mul_le_mul_of_nonneg_left hb h0
  have e3 : (k - m) * c + m * c = k * c := by grind
  omega
theorem convP {k m w v s u : Int} (hk : 0 < k) (m0 : 0 ≤ m) (m1 : m ≤ k) (s0 : 0 ≤ s) (s1 : s ≤ k) (h : k * w + m * v = s * u) : ovI u w v := by
  have h1 : k * w + m * v = (k - m) * w + m * (w + v) := by grind
  have h2 : s * u = (k - s) * 0 + s * u := by grind
  have a1 := mean_le (k := k) (m := m) (a := w) (b := w + v) (c := max w (w + v)) m0 m1 (by omega) (by omega)
  have a2 := le_mean (k := k) (m := m) (a := w) (b := w + v) (c := min w (w + v)) m0 m1 (by omega) (by omega)
  have a3 := mean_le (k := k) (m := s) (a := 0) (b := u) (c := max 0 u) s0 s1 (by omega) (by omega)
  have a4 := le_mean (k := k) (m := s) (a := 0) (b := u) (c := min 0 u) s0 s1 (by omega) (by omega)
  unfold ovI
  constructor
  · exact Int.le_of_mul_le_mul_left (by omega : k * min 0 u ≤ k * max w (w + v)) hk
  · exact Int.le_of_mul_le_mul_left (by omega : k * min w (w + v) ≤ k * max 0 u) hk
/-- between 0 and k, of any sign: a mean lies inside -/
theorem conv {k m w v s u : Int} (hk : k ≠ 0) (hm : bt k m) (hs : bt k s) (h : k * w + m * v = s * u) : ovI u w v := by
  unfold bt at hm hs
  rcases Int.lt_or_gt_of_ne hk with z | z
  · exact convP (k := -k) (m := -m) (s := -s) (by omega) (by omega) (by omega) (by omega) (by omega) (by grind)
  · exact convP z (by omega) (by omega) (by omega) (by omega) h
theorem neg_ops {a b : Int} (h : a * b < 0) : ops a b := by
  unfold ops
  refine Classical.byContradiction (fun z => ?_)
  rcases Int.le_total 0 a with h1 | h1
  · rcases Int.le_total 0 b with h2 | h2
    · have := Int.mul_nonneg h1 h2; omega
    · omega
  · rcases Int.le_total 0 b with h2 | h2
    · omega
    · have := Int.mul_nonneg_of_nonpos_of_nonpos h1 h2; omega
theorem ops_neg {a b : Int} (h : ops a b) (ha : a ≠ 0) (hb : b ≠ 0) : a * b < 0 := by
  unfold ops at h
  rcases h with h | h
  · exact Int.mul_neg_of_neg_of_pos (by omega) (by omega)
  · exact Int.mul_neg_of_pos_of_neg (by omega) (by omega)
theorem ops_z (b : Int) : ops 0 b := by unfold ops; omega
theorem z_ops (b : Int) : ops b 0 := by unfold ops; omega
theorem bt_ops' {k s : Int} (h : bt k (-s)) : ops s (s + k) := by unfold bt at h; unfold ops; omega
theorem ops_bt' {k s : Int} (h : ops s (s + k)) : bt k (-s) := by unfold ops at h; unfold bt; omega
/-- along one line: the boxes meet on one axis, so an end lies on the other stretch -/
theorem par {ux uy vx vy w1 w2 : Int} (hx : ux ≠ 0) (hv : vx ≠ 0) (e1 : ux * vy = uy * vx) (e2 : ux * w2 = uy * w1) (e3 : w1 * vy = w2 * vx) (ov : ovI ux w1 vx) :
    (bt vx (-w1) ∧ bt vy (-w2)) ∨ (bt vx (ux - w1) ∧ bt vy (uy - w2)) ∨ (bt ux w1 ∧ bt uy w2) ∨ (bt ux (w1 + vx) ∧ bt uy (w2 + vy)) := by
  have key : bt vx (-w1) ∨ bt vx (ux - w1) ∨ bt ux w1 ∨ bt ux (w1 + vx) := by unfold ovI at ov; unfold bt; omega
  rcases key with h | h | h | h
  · exact Or.inl ⟨h, btmul hv (by grind) h⟩
  · exact Or.inr (Or.inl ⟨h, btmul hv (by grind) h⟩)
  · exact Or.inr (Or.inr (Or.inl ⟨h, btmul hx (by grind) h⟩))
  · exact Or.inr (Or.inr (Or.inr ⟨h, btmul hx (by grind) h⟩))
theorem seg {ux uy vx vy w1 w2 : Int} (hu : ux ≠ 0 ∨ uy ≠ 0) (hv : vx ≠ 0 ∨ vy ≠ 0) :
    (ops (ux * w2 - uy * w1) (ux * w2 - uy * w1 + (ux * vy - uy * vx)) ∧ ops (w1 * vy - w2 * vx) (w1 * vy - w2 * vx - (ux * vy - uy * vx)) ∧ ovI ux w1 vx ∧ ovI uy w2 vy) ↔
    ((w1 * vy - w2 * vx = 0 ∧ bt vx (-w1) ∧ bt vy (-w2)) ∨ (w1 * vy - w2 * vx - (ux * vy - uy * vx) = 0 ∧ bt vx (ux - w1) ∧ bt vy (uy - w2)) ∨ (ux * w2 - uy * w1 = 0 ∧ bt ux w1 ∧ bt uy w2) ∨ (ux * w2 - uy * w1 + (ux * vy - uy * vx) = 0 ∧ bt ux (w1 + vx) ∧ bt uy (w2 + vy)) ∨ ((ux * w2 - uy * w1) * (ux * w2 - uy * w1 + (ux * vy - uy * vx)) < 0 ∧ (w1 * vy - w2 * vx) * (w1 * vy - w2 * vx - (ux * vy - uy * vx)) < 0)) := by
  have i1 : (ux * vy - uy * vx) * w1 = (w1 * vy - w2 * vx) * ux + (ux * w2 - uy * w1) * vx := by grind
  have i2 : (ux * vy - uy * vx) * w2 = (w1 * vy - w2 * vx) * uy + (ux * w2 - uy * w1) * vy := by grind
  have e1 : ux * vy - uy * vx = 0 → ux * vy = uy * vx := by omega
  have e2 : ux * w2 - uy * w1 = 0 → ux * w2 = uy * w1 := by omega
  have e3 : w1 * vy - w2 * vx = 0 → w1 * vy = w2 * vx := by omega
  generalize hK : ux * vy - uy * vx = K at *
  generalize hC : ux * w2 - uy * w1 = C at *
  generalize hA : w1 * vy - w2 * vx = A at *
  clear hK hC hA
  constructor
  · intro ⟨o1, o2, v1, v2⟩
    by_cases k0 : K = 0
    · subst k0
      have c0 : C = 0 := by unfold ops at o1; omega
      have a0 : A = 0 := by unfold ops at o2; omega
      subst c0 a0
      have f1 := e1 rfl
      have f2 := e2 rfl
      have f3 := e3 rfl
      by_cases hx : ux = 0
      · have hy : uy ≠ 0 := by omega
        have hvy : vy ≠ 0 := by
          intro q
          rw [hx, Int.zero_mul] at f1
          rcases Int.mul_eq_zero.mp f1.symm with z | z <;> omega
        rcases par hy hvy f1.symm f2.symm f3.symm v2 with h | h | h | h
        · exact Or.inl ⟨rfl, h.2, h.1⟩
        · exact Or.inr (Or.inl ⟨rfl, h.2, h.1⟩)
        · exact Or.inr (Or.inr (Or.inl ⟨rfl, h.2, h.1⟩))
        · exact Or.inr (Or.inr (Or.inr (Or.inl ⟨rfl, h.2, h.1⟩)))
      · have hvx : vx ≠ 0 := by
          intro q
          rw [q, Int.mul_zero] at f1
          rcases Int.mul_eq_zero.mp f1 with z | z <;> omega
        rcases par hx hvx f1 f2 f3 v1 with h | h | h | h
        · exact Or.inl ⟨rfl, h.1, h.2⟩
        · exact Or.inr (Or.inl ⟨rfl, h.1, h.2⟩)
        · exact Or.inr (Or.inr (Or.inl ⟨rfl, h.1, h.2⟩))
        · exact Or.inr (Or.inr (Or.inr (Or.inl ⟨rfl, h.1, h.2⟩)))
    · have b1 : bt K (-C) := ops_bt' o1
      have b2 : bt K A := ops_bt o2
      by_cases h1 : A = 0
      · exact Or.inl ⟨h1, btmul (s := -C) k0 (by grind) b1, btmul (s := -C) k0 (by grind) b1⟩
      · by_cases h2 : A - K = 0
        · exact Or.inr (Or.inl ⟨h2, btmul (s := -C) k0 (by grind) b1, btmul (s := -C) k0 (by grind) b1⟩)
        · by_cases h3 : C = 0
          · exact Or.inr (Or.inr (Or.inl ⟨h3, btmul (s := A) k0 (by grind) b2, btmul (s := A) k0 (by grind) b2⟩))
          · by_cases h4 : C + K = 0
            · exact Or.inr (Or.inr (Or.inr (Or.inl ⟨h4, btmul (s := A) k0 (by grind) b2, btmul (s := A) k0 (by grind) b2⟩)))
            · exact Or.inr (Or.inr (Or.inr (Or.inr ⟨ops_neg o1 h3 h4, ops_neg o2 h1 h2⟩)))
  · intro h
    rcases h with ⟨z, h1, h2⟩ | ⟨z, h1, h2⟩ | ⟨z, h1, h2⟩ | ⟨z, h1, h2⟩ | ⟨h1, h2⟩
    · have b : bt K (-C) := by
        rcases hv with q | q
        · exact btmul q (by grind) h1
        · exact btmul q (by grind) h2
      refine ⟨bt_ops' b, by rw [z]; exact ops_z _, ?_, ?_⟩
      · unfold bt at h1; unfold ovI; omega
      · unfold bt at h2; unfold ovI; omega
    · have b : bt K (-C) := by
        rcases hv with q | q
        · exact btmul q (by grind) h1
        · exact btmul q (by grind) h2
      refine ⟨bt_ops' b, by rw [z]; exact z_ops _, ?_, ?_⟩
      · unfold bt at h1; unfold ovI; omega
      · unfold bt at h2; unfold ovI; omega
    · have b : bt K A := by
        rcases hu with q | q
        · exact btmul q (by grind) h1
        · exact btmul q (by grind) h2
      refine ⟨by rw [z]; exact ops_z _, bt_ops b, ?_, ?_⟩
      · unfold bt at h1; unfold ovI; omega
      · unfold bt at h2; unfold ovI; omega
    · have b : bt K A := by
        rcases hu with q | q
        · exact btmul q (by grind) h1
        · exact btmul q (by grind) h2
      refine ⟨by rw [z]; exact z_ops _, bt_ops b, ?_, ?_⟩
      · unfold bt at h1; unfold ovI; omega
      · unfold bt at h2; unfold ovI; omega
    · have o1 := neg_ops h1
      have o2 := neg_ops h2
      have k0 : K ≠ 0 := by
        intro q
        rw [q, Int.add_zero] at h1
        rcases Int.le_total 0 C with w | w
        · have := Int.mul_nonneg w w; omega
        · have := Int.mul_nonneg_of_nonpos_of_nonpos w w; omega
      have b1 : bt K (-C) := ops_bt' o1
      have b2 : bt K A := ops_bt o2
      exact ⟨o1, o2, conv k0 b1 b2 (by grind), conv k0 b1 b2 (by grind)⟩
theorem mulB {x y : Int} (hx : -3000 ≤ x ∧ x ≤ 3000) (hy : -3000 ≤ y ∧ y ≤ 3000) : -9000000 ≤ x * y ∧ x * y ≤ 9000000 := by
  have h : (x * y).natAbs ≤ 3000 * 3000 := by rw [Int.natAbs_mul]; exact Nat.mul_le_mul (by omega) (by omega)
  omega
theorem l_add {a b : Int64} {x y : Int} (ha : a.toInt = x) (hb : b.toInt = y) (hx : -100000000 ≤ x ∧ x ≤ 100000000) (hy : -100000000 ≤ y ∧ y ≤ 100000000) : (a + b).toInt = x + y := by
  rw [Int64.toInt_add, ha, hb, Int.bmod_eq_of_le (by omega) (by omega)]
theorem l_sub {a b : Int64} {x y : Int} (ha : a.toInt = x) (hb : b.toInt = y) (hx : -100000000 ≤ x ∧ x ≤ 100000000) (hy : -100000000 ≤ y ∧ y ≤ 100000000) : (a - b).toInt = x - y := by
  rw [Int64.toInt_sub, ha, hb, Int.bmod_eq_of_le (by omega) (by omega)]
theorem l_mul {a b : Int64} {x y : Int} (ha : a.toInt = x) (hb : b.toInt = y) (hx : -3000 ≤ x ∧ x ≤ 3000) (hy : -3000 ≤ y ∧ y ≤ 3000) : (a * b).toInt = x * y := by
  have := mulB hx hy
  rw [Int64.toInt_mul, ha, hb, Int.bmod_eq_of_le (by omega) (by omega)]
theorem i_add {a b : Int32} {x y : Int} (ha : a.toInt = x) (hb : b.toInt = y) (hx : -100000000 ≤ x ∧ x ≤ 100000000) (hy : -100000000 ≤ y ∧ y ≤ 100000000) : (a + b).toInt = x + y := by
  rw [Int32.toInt_add, ha, hb, Int.bmod_eq_of_le (by omega) (by omega)]
theorem i_sub {a b : Int32} {x y : Int} (ha : a.toInt = x) (hb : b.toInt = y) (hx : -100000000 ≤ x ∧ x ≤ 100000000) (hy : -100000000 ≤ y ∧ y ≤ 100000000) : (a - b).toInt = x - y := by
  rw [Int32.toInt_sub, ha, hb, Int.bmod_eq_of_le (by omega) (by omega)]
/-- a turn, in either width -/
theorem tn_int {a b c d : Int64} {a' b' c' d' : Int} (ha : a.toInt = a') (hb : b.toInt = b') (hc : c.toInt = c') (hd : d.toInt = d') (ba : -3000 ≤ a' ∧ a' ≤ 3000) (bb : -3000 ≤ b' ∧ b' ≤ 3000) (bc : -3000 ≤ c' ∧ c' ≤ 3000) (bd : -3000 ≤ d' ∧ d' ≤ 3000) : (a * b - c * d).toInt = a' * b' - c' * d' := by
  have h1 := mulB ba bb
  have h2 := mulB bc bd
  exact l_sub (l_mul ha hb ba bb) (l_mul hc hd bc bd) (by omega) (by omega)
theorem sg_c (v : Int64) : (sgM v = 0 ∧ v.toInt = 0) ∨ (sgM v = -1 ∧ v.toInt < 0) ∨ (sgM v = 1 ∧ 0 < v.toInt) := by
  unfold sgM
  have z : (0 : Int64).toInt = 0 := rfl
  by_cases h : v ≤ 0
  · rw [if_pos h]
    rw [Int64.le_iff_toInt_le, z] at h
    by_cases h2 : 0 ≤ v
    · rw [if_pos h2]
      rw [Int64.le_iff_toInt_le, z] at h2
      exact Or.inl ⟨rfl, by omega⟩
    · rw [if_neg h2]
      rw [Int64.le_iff_toInt_le, z] at h2
      exact Or.inr (Or.inl ⟨rfl, by omega⟩)
  · rw [if_neg h]
    rw [Int64.le_iff_toInt_le, z] at h
    exact Or.inr (Or.inr ⟨rfl, by omega⟩)
theorem sg_z (v : Int64) : sgM v = 0 ↔ v.toInt = 0 := by
  rcases sg_c v with ⟨h, g⟩ | ⟨h, g⟩ | ⟨h, g⟩
  · rw [h]; exact ⟨fun _ => g, fun _ => rfl⟩
  · rw [h]; exact ⟨fun q => absurd q (by decide), fun q => by omega⟩
  · rw [h]; exact ⟨fun q => absurd q (by decide), fun q => by omega⟩
theorem sg_m (v w : Int64) : sgM v * sgM w < 0 ↔ v.toInt * w.toInt < 0 := by
  rcases sg_c v with ⟨h, g⟩ | ⟨h, g⟩ | ⟨h, g⟩
  · rw [h, g, Int.zero_mul, Int32.zero_mul]; exact ⟨fun q => absurd q (by decide), fun q => absurd q (by decide)⟩
  · rcases sg_c w with ⟨h', g'⟩ | ⟨h', g'⟩ | ⟨h', g'⟩
    · rw [h', g', Int.mul_zero, Int32.mul_zero]; exact ⟨fun q => absurd q (by decide), fun q => absurd q (by decide)⟩
    · have := Int.mul_pos_of_neg_of_neg g g'; rw [h, h']; exact ⟨fun q => absurd q (by decide), fun q => by omega⟩
    · have := Int.mul_neg_of_neg_of_pos g g'; rw [h, h']; exact ⟨fun q => by omega, fun q => by decide⟩
  · rcases sg_c w with ⟨h', g'⟩ | ⟨h', g'⟩ | ⟨h', g'⟩
    · rw [h', g', Int.mul_zero, Int32.mul_zero]; exact ⟨fun q => absurd q (by decide), fun q => absurd q (by decide)⟩
    · have := Int.mul_neg_of_pos_of_neg g g'; rw [h, h']; exact ⟨fun q => by omega, fun q => by decide⟩
    · have := Int.mul_pos g g'; rw [h, h']; exact ⟨fun q => absurd q (by decide), fun q => by omega⟩
theorem bt_int (a b c : Int64) : btM a b c = true ↔ bt (b.toInt - a.toInt) (c.toInt - a.toInt) := by
  unfold btM bt
  by_cases h : a < b
  · rw [if_pos h]
    rw [Int64.lt_iff_toInt_lt] at h
    rw [Bool.and_eq_true, decide_eq_true_eq, decide_eq_true_eq, Int64.le_iff_toInt_le, Int64.le_iff_toInt_le]
    omega
  · rw [if_neg h]
    rw [Int64.lt_iff_toInt_lt] at h
    rw [Bool.and_eq_true, decide_eq_true_eq, decide_eq_true_eq, Int64.le_iff_toInt_le, Int64.le_iff_toInt_le]
    omega
theorem on_int (ax ay bx bY cx cy : Int64) : onM ax ay bx bY cx cy = true ↔ bt (bx.toInt - ax.toInt) (cx.toInt - ax.toInt) ∧ bt (bY.toInt - ay.toInt) (cy.toInt - ay.toInt) := by
  unfold onM
  rw [Bool.and_eq_true, bt_int, bt_int]
theorem st_int (a b : Int64) : ((decide (a ≤ 0) && decide (0 ≤ b)) || (decide (0 ≤ a) && decide (b ≤ 0))) = true ↔ ops a.toInt b.toInt := by
  have z : (0 : Int64).toInt = 0 := rfl
  unfold ops
  rw [Bool.or_eq_true, Bool.and_eq_true, Bool.and_eq_true, decide_eq_true_eq, decide_eq_true_eq, decide_eq_true_eq, decide_eq_true_eq, Int64.le_iff_toInt_le, Int64.le_iff_toInt_le, Int64.le_iff_toInt_le, Int64.le_iff_toInt_le, z]
theorem mn_int (a b : Int32) : (mnF a b).toInt = min a.toInt b.toInt := by
  unfold mnF
  by_cases h : b < a
  · rw [if_pos h]; rw [Int32.lt_iff_toInt_lt] at h; omega
  · rw [if_neg h]; rw [Int32.lt_iff_toInt_lt] at h; omega
theorem mx_int (a b : Int32) : (mxF a b).toInt = max a.toInt b.toInt := by
  unfold mxF
  by_cases h : a < b
  · rw [if_pos h]; rw [Int32.lt_iff_toInt_lt] at h; omega
  · rw [if_neg h]; rw [Int32.lt_iff_toInt_lt] at h; omega
/-- b + v is the other's stretch, a + w this one's -/
theorem ov_int {a w b v : Int32} (ha : -1000 ≤ a.toInt ∧ a.toInt ≤ 1000) (hw : -1000 ≤ w.toInt ∧ w.toInt ≤ 1000) (hb : -1000 ≤ b.toInt ∧ b.toInt ≤ 1000) (hv : -1000 ≤ v.toInt ∧ v.toInt ≤ 1000) : ovF a w b v = true ↔ ovI v.toInt (a.toInt - b.toInt) w.toInt := by
  have e1 := i_add (a := a) (b := w) rfl rfl (by omega) (by omega)
  have e2 := i_add (a := b) (b := v) rfl rfl (by omega) (by omega)
  unfold ovF ovI
  rw [Bool.and_eq_true, decide_eq_true_eq, decide_eq_true_eq, Int32.le_iff_toInt_le, Int32.le_iff_toInt_le, mn_int, mn_int, mx_int, mx_int, e1, e2]
  omega
theorem pl_int {v : Int32} (h : plF v = true) : -1000 ≤ v.toInt ∧ v.toInt ≤ 1000 := by
  unfold plF at h
  rw [Bool.and_eq_true, decide_eq_true_eq, decide_eq_true_eq, Int32.le_iff_toInt_le, Int32.le_iff_toInt_le] at h
  exact h
theorem ln_int {x y dx dy : Int32} (h : lnF x y dx dy = true) : (-1000 ≤ x.toInt ∧ x.toInt ≤ 1000) ∧ (-1000 ≤ y.toInt ∧ y.toInt ≤ 1000) ∧ (-1000 ≤ dx.toInt ∧ dx.toInt ≤ 1000) ∧ (-1000 ≤ dy.toInt ∧ dy.toInt ≤ 1000) ∧ (dx.toInt ≠ 0 ∨ dy.toInt ≠ 0) := by
  unfold lnF at h
  simp only [Bool.and_eq_true] at h
  obtain ⟨⟨⟨⟨h1, h2⟩, h3⟩, h4⟩, h5⟩ := h
  refine ⟨pl_int h1, pl_int h2, pl_int h3, pl_int h4, ?_⟩
  simp only [Bool.or_eq_true, Bool.not_eq_true', decide_eq_false_iff_not] at h5
  rcases h5 with q | q
  · exact Or.inl (fun z => q (Int32.toInt_inj.mp z))
  · exact Or.inr (fun z => q (Int32.toInt_inj.mp z))
theorem mt_eq {X Y U V : Nat → Int32} {i h : Nat} (hi : lnF (X i) (Y i) (U i) (V i) = true) (hh : lnF (X h) (Y h) (U h) (V h) = true) :
    mtF X Y U V i h = smM (X h).toInt64 (Y h).toInt64 ((X h).toInt64 + (U h).toInt64) ((Y h).toInt64 + (V h).toInt64) (X i).toInt64 (Y i).toInt64 ((X i).toInt64 + (U i).toInt64) ((Y i).toInt64 + (V i).toInt64) := by
  obtain ⟨b1, b2, b3, b4, hv⟩ := ln_int hi
  obtain ⟨d1, d2, d3, d4, hu⟩ := ln_int hh
  have L : ∀ x : Int32, x.toInt64.toInt = x.toInt := fun x => Int32.toInt_toInt64 x
  have s := seg (w1 := (X i).toInt - (X h).toInt) (w2 := (Y i).toInt - (Y h).toInt) hu hv
  -- the four turns of the class
  have q1 := i_add (a := X h) (b := U h) rfl rfl (by omega) (by omega)
  have q2 := i_add (a := Y h) (b := V h) rfl rfl (by omega) (by omega)
  have q3 := i_add (a := X i) (b := U i) rfl rfl (by omega) (by omega)
  have q4 := i_add (a := Y i) (b := V i) rfl rfl (by omega) (by omega)
  have t1 : (tnF X Y U V i (X h) (Y h)).toInt = ((X i).toInt - (X h).toInt) * (V i).toInt - ((Y i).toInt - (Y h).toInt) * (U i).toInt := by
    refine (tn_int (L (U i)) ((L _).trans (i_sub (a := Y h) (b := Y i) rfl rfl (by omega) (by omega))) (L (V i)) ((L _).trans (i_sub (a := X h) (b := X i) rfl rfl (by omega) (by omega))) (by omega) (by omega) (by omega) (by omega)).trans ?_
    grind
  have t2 : (tnF X Y U V i (X h + U h) (Y h + V h)).toInt = ((X i).toInt - (X h).toInt) * (V i).toInt - ((Y i).toInt - (Y h).toInt) * (U i).toInt - ((U h).toInt * (V i).toInt - (V h).toInt * (U i).toInt) := by
    refine (tn_int (L (U i)) ((L _).trans (i_sub (b := Y i) q2 rfl (by omega) (by omega))) (L (V i)) ((L _).trans (i_sub (b := X i) q1 rfl (by omega) (by omega))) (by omega) (by omega) (by omega) (by omega)).trans ?_
    grind
  have t3 : (tnF X Y U V h (X i) (Y i)).toInt = (U h).toInt * ((Y i).toInt - (Y h).toInt) - (V h).toInt * ((X i).toInt - (X h).toInt) :=
    tn_int (L (U h)) ((L _).trans (i_sub (a := Y i) (b := Y h) rfl rfl (by omega) (by omega))) (L (V h)) ((L _).trans (i_sub (a := X i) (b := X h) rfl rfl (by omega) (by omega))) (by omega) (by omega) (by omega) (by omega)
  have t4 : (tnF X Y U V h (X i + U i) (Y i + V i)).toInt = (U h).toInt * ((Y i).toInt - (Y h).toInt) - (V h).toInt * ((X i).toInt - (X h).toInt) + ((U h).toInt * (V i).toInt - (V h).toInt * (U i).toInt) := by
    refine (tn_int (L (U h)) ((L _).trans (i_sub (b := Y h) q4 rfl (by omega) (by omega))) (L (V h)) ((L _).trans (i_sub (b := X h) q3 rfl (by omega) (by omega))) (by omega) (by omega) (by omega) (by omega)).trans ?_
    grind
  -- the reference's ends and turns
  have p1 := l_add (L (X h)) (L (U h)) (by omega) (by omega)
  have p2 := l_add (L (Y h)) (L (V h)) (by omega) (by omega)
  have p3 := l_add (L (X i)) (L (U i)) (by omega) (by omega)
  have p4 := l_add (L (Y i)) (L (V i)) (by omega) (by omega)
  have m1 : (tvM (X h).toInt64 (Y h).toInt64 ((X h).toInt64 + (U h).toInt64) ((Y h).toInt64 + (V h).toInt64) (X i).toInt64 (Y i).toInt64).toInt = (U h).toInt * ((Y i).toInt - (Y h).toInt) - (V h).toInt * ((X i).toInt - (X h).toInt) := by
    refine (tn_int (l_sub p1 (L (X h)) (by omega) (by omega)) (l_sub (L (Y i)) (L (Y h)) (by omega) (by omega)) (l_sub p2 (L (Y h)) (by omega) (by omega)) (l_sub (L (X i)) (L (X h)) (by omega) (by omega)) (by omega) (by omega) (by omega) (by omega)).trans ?_
    grind
  have m2 : (tvM (X h).toInt64 (Y h).toInt64 ((X h).toInt64 + (U h).toInt64) ((Y h).toInt64 + (V h).toInt64) ((X i).toInt64 + (U i).toInt64) ((Y i).toInt64 + (V i).toInt64)).toInt = (U h).toInt * ((Y i).toInt - (Y h).toInt) - (V h).toInt * ((X i).toInt - (X h).toInt) + ((U h).toInt * (V i).toInt - (V h).toInt * (U i).toInt) := by
    refine (tn_int (l_sub p1 (L (X h)) (by omega) (by omega)) (l_sub p4 (L (Y h)) (by omega) (by omega)) (l_sub p2 (L (Y h)) (by omega) (by omega)) (l_sub p3 (L (X h)) (by omega) (by omega)) (by omega) (by omega) (by omega) (by omega)).trans ?_
    grind
  have m3 : (tvM (X i).toInt64 (Y i).toInt64 ((X i).toInt64 + (U i).toInt64) ((Y i).toInt64 + (V i).toInt64) (X h).toInt64 (Y h).toInt64).toInt = ((X i).toInt - (X h).toInt) * (V i).toInt - ((Y i).toInt - (Y h).toInt) * (U i).toInt := by
    refine (tn_int (l_sub p3 (L (X i)) (by omega) (by omega)) (l_sub (L (Y h)) (L (Y i)) (by omega) (by omega)) (l_sub p4 (L (Y i)) (by omega) (by omega)) (l_sub (L (X h)) (L (X i)) (by omega) (by omega)) (by omega) (by omega) (by omega) (by omega)).trans ?_
    grind
  have m4 : (tvM (X i).toInt64 (Y i).toInt64 ((X i).toInt64 + (U i).toInt64) ((Y i).toInt64 + (V i).toInt64) ((X h).toInt64 + (U h).toInt64) ((Y h).toInt64 + (V h).toInt64)).toInt = ((X i).toInt - (X h).toInt) * (V i).toInt - ((Y i).toInt - (Y h).toInt) * (U i).toInt - ((U h).toInt * (V i).toInt - (V h).toInt * (U i).toInt) := by
    refine (tn_int (l_sub p3 (L (X i)) (by omega) (by omega)) (l_sub p2 (L (Y i)) (by omega) (by omega)) (l_sub p4 (L (Y i)) (by omega) (by omega)) (l_sub p1 (L (X i)) (by omega) (by omega)) (by omega) (by omega) (by omega) (by omega)).trans ?_
    grind
  rw [Bool.eq_iff_iff]
  have cl : mtF X Y U V i h = true ↔ ((ops (tnF X Y U V i (X h) (Y h)).toInt (tnF X Y U V i (X h + U h) (Y h + V h)).toInt ∧ ops (tnF X Y U V h (X i) (Y i)).toInt (tnF X Y U V h (X i + U i) (Y i + V i)).toInt) ∧ ovI (U h).toInt ((X i).toInt - (X h).toInt) (U i).toInt) ∧ ovI (V h).toInt ((Y i).toInt - (Y h).toInt) (V i).toInt := by
    unfold mtF
    rw [Bool.and_eq_true, Bool.and_eq_true, Bool.and_eq_true, ov_int b1 b3 d1 d3, ov_int b2 b4 d2 d4]
    unfold stF
    rw [st_int, st_int]
  rw [t1, t2, t3, t4] at cl
  rw [cl]
  unfold smM tuM
  simp only [Bool.or_eq_true, Bool.and_eq_true, decide_eq_true_eq, sg_z, sg_m, on_int, m1, m2, m3, m4, p1, p2, p3, p4, L]
  have x1 : (X h).toInt + (U h).toInt - (X h).toInt = (U h).toInt := by omega
  have x2 : (Y h).toInt + (V h).toInt - (Y h).toInt = (V h).toInt := by omega
  have x3 : (X i).toInt + (U i).toInt - (X i).toInt = (U i).toInt := by omega
  have x4 : (Y i).toInt + (V i).toInt - (Y i).toInt = (V i).toInt := by omega
  have y1 : (X i).toInt + (U i).toInt - (X h).toInt = (X i).toInt - (X h).toInt + (U i).toInt := by omega
  have y2 : (Y i).toInt + (V i).toInt - (Y h).toInt = (Y i).toInt - (Y h).toInt + (V i).toInt := by omega
  have y3 : (X h).toInt + (U h).toInt - (X i).toInt = (U h).toInt - ((X i).toInt - (X h).toInt) := by omega
  have y4 : (Y h).toInt + (V h).toInt - (Y i).toInt = (V h).toInt - ((Y i).toInt - (Y h).toInt) := by omega
  have y5 : (X h).toInt - (X i).toInt = -((X i).toInt - (X h).toInt) := by omega
  have y6 : (Y h).toInt - (Y i).toInt = -((Y i).toInt - (Y h).toInt) := by omega
  rw [x1, x2, x3, x4, y1, y2, y3, y4, y5, y6]
  constructor
  · intro ⟨⟨⟨o1, o2⟩, o3⟩, o4⟩
    rcases s.mp ⟨o2, o1, o3, o4⟩ with g | g | g | g | g
    · exact Or.inl (Or.inl (Or.inr g))
    · exact Or.inl (Or.inr g)
    · exact Or.inl (Or.inl (Or.inl (Or.inl g)))
    · exact Or.inl (Or.inl (Or.inl (Or.inr g)))
    · exact Or.inr ⟨g.2, g.1⟩
  · intro g
    have : _ ∧ _ := s.mpr (by
      rcases g with (((g | g) | g) | g) | g
      · exact Or.inr (Or.inr (Or.inl g))
      · exact Or.inr (Or.inr (Or.inr (Or.inl g)))
      · exact Or.inl g
      · exact Or.inr (Or.inl g)
      · exact Or.inr (Or.inr (Or.inr (Or.inr ⟨g.2, g.1⟩))))
    obtain ⟨o2, o1, o3, o4⟩ := this
    exact ⟨⟨⟨o1, o2⟩, o3⟩, o4⟩
theorem cnB_cg {P Q : Nat → Bool} {n : Nat} (h : ∀ j, j < n → P j = Q j) : ∀ j, j ≤ n → cnB P j = cnB Q j := by
  intro j
  induction j with
  | zero => intro _; rfl
  | succ j ih => intro hj; rw [cnB, cnB, ih (by omega), h j (by omega)]
theorem fkS_cg {P Q : Nat → Bool} {k : Int32} {n : Nat} (h : ∀ j, j < n → P j = Q j) : ∀ m j, j + m ≤ n → fkS P k m j = fkS Q k m j := by
  intro m
  induction m with
  | zero => intro j _; rfl
  | succ m ih => intro j hj; rw [fkS, fkS, ih (j + 1) (by omega), h j (by omega), cnB_cg h j (by omega)]
theorem op_foul {l : Launch} (hl : l.stackTraces = false) (M : Mem) (o : Ou) {c : Nat} (a : Int32) (h : Inv c M) : OpD l 107 [.ref 0, .int a] 175 [.ref 11, .int a] c M o := by
  have h' := h
  obtain ⟨n, t, e, m, dy, r, pl, rd, E, W, H, L, h1, h2, h3, h4, h5⟩ := h
  obtain ⟨l1, l2, l3, l4, l5, l6, l7, l8, l9, l10, l11, l12, l13, l14, l15⟩ := h5
  refine ⟨_, c_X7_foul hl M o a l2 l1, fun v M1 o1 q => ?_⟩
  obtain ⟨q1, q2, q3⟩ := q
  subst q2
  have e : cRg M1 r = mRg M1 r := by
    show rgF (alF (M1 33) (M1 34) (M1 10 9) (M1 10 10)) (gbF (alF (M1 33) (M1 34) (M1 10 9) (M1 10 10)) (frF (M1 31) (M1 32) (M1 10 7) (M1 10 8)) (M1 33) (M1 34)) r = mRg M1 r
    rw [l5, l6, l7, l8, l9, l10, l11, l12]
  have e2 : foF (M1 30) (cMt M1) (cRg M1 r) a r = foF (M1 58) (fun i h => mMt M1 h i) (mRg M1 r) a r := by
    rw [← e]
    cases hr : cRg M1 r with
    | none => rfl
    | some b =>
      have hb : b < r := rgF_lt hr
      have g : ∀ j, j < r → foP (M1 30) (cMt M1) b j = foP (M1 58) (fun i h => mMt M1 h i) b j := fun j hj => by
        have w : cMt M1 j b = mMt M1 b j := by
          have w := mt_eq (l15 j hj) (l15 b hb)
          unfold mMt
          rw [← l5, ← l6, ← l7, ← l8]
          exact w
        unfold foP
        rw [w, l4]
      show oI (fkS _ a r 0) = oI (fkS _ a r 0)
      rw [fkS_cg g r 0 (by omega)]
  refine ⟨_, q1, _, c_X8_foul hl M1 o1 a l3 l1, fun v2 M2 o2 q => ?_⟩
  obtain ⟨w1, w2, w3⟩ := q
  rw [w2, w1, e2]
  exact ⟨rfl, inv_thr h'⟩
