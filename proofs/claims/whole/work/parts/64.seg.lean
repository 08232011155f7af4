/-! THE LINE: stretches meet alike. -/
def bt (q p : Int) : Prop := (0 ≤ p ∧ p ≤ q) ∨ (q ≤ p ∧ p ≤ 0)
theorem btmul {k p s q : Int} (hk : k ≠ 0) (h : k * p = s * q) (hs : bt k s) : bt q p := by
  unfold bt at *
  rcases Int.lt_or_gt_of_ne hk with w | w
  · have hs : k ≤ s ∧ s ≤ 0 := by omega
    rcases Int.le_total 0 q with hq | hq
    · left
      constructor
      · refine Classical.byContradiction (fun z => ?_)
        have h1 : 0 < k * p := Int.mul_pos_of_neg_of_neg w (by omega)
        have h2 : s * q ≤ 0 := Int.mul_nonpos_of_nonpos_of_nonneg hs.2 hq
        omega
      · refine Classical.byContradiction (fun z => ?_)
        have h1 : k * p < k * q := Int.mul_lt_mul_of_neg_left (by omega) w
        have h2 : k * q ≤ s * q := Int.mul_le_mul_of_nonneg_right hs.1 hq
        omega
    · right
      constructor
      · refine Classical.byContradiction (fun z => ?_)
        have h1 : k * q < k * p := Int.mul_lt_mul_of_neg_left (by omega) w
        have h2 : s * q ≤ k * q := Int.mul_le_mul_of_nonpos_right hs.1 hq
        omega
      · refine Classical.byContradiction (fun z => ?_)
        have h1 : k * p < 0 := Int.mul_neg_of_neg_of_pos w (by omega)
        have h2 : 0 ≤ s * q := Int.mul_nonneg_of_nonpos_of_nonpos hs.2 hq
        omega
  · have hs : 0 ≤ s ∧ s ≤ k := by omega
    rcases Int.le_total 0 q with hq | hq
    · left
      constructor
      · refine Classical.byContradiction (fun z => ?_)
        have h1 : k * p < 0 := Int.mul_neg_of_pos_of_neg w (by omega)
        have h2 : 0 ≤ s * q := Int.mul_nonneg hs.1 hq
        omega
      · refine Classical.byContradiction (fun z => ?_)
        have h1 : k * q < k * p := Int.mul_lt_mul_of_pos_left (by omega) w
        have h2 : s * q ≤ k * q := Int.mul_le_mul_of_nonneg_right hs.2 hq
        omega
    · right
      constructor
      · refine Classical.byContradiction (fun z => ?_)
        have h1 : k * p < k * q := Int.mul_lt_mul_of_pos_left (by omega) w
        have h2 : k * q ≤ s * q := Int.mul_le_mul_of_nonpos_right hs.2 hq
        omega
      · refine Classical.byContradiction (fun z => ?_)
        have h1 : 0 < k * p := Int.mul_pos w (by omega)
        have h2 : s * q ≤ 0 := Int.mul_nonpos_of_nonneg_of_nonpos hs.1 hq
        omega
def ops (a b : Int) : Prop := (a ≤ 0 ∧ 0 ≤ b) ∨ (0 ≤ a ∧ b ≤ 0)
def ovI (u w v : Int) : Prop := min 0 u ≤ max w (w + v) ∧ min w (w + v) ≤ max 0 u
theorem bt_ops {k s : Int} (h : bt k s) : ops s (s - k) := by unfold bt at h; unfold ops; omega
theorem ops_bt {k s : Int} (h : ops s (s - k)) : bt k s := by unfold ops at h; unfold bt; omega
theorem mean_le {k m a b c : Int} (h0 : 0 ≤ m) (h1 : m ≤ k) (ha : a ≤ c) (hb : b ≤ c) : (k - m) * a + m * b ≤ k * c := by
  have e1 : (k - m) * a ≤ (k - m) * c := Int.mul_le_mul_of_nonneg_left ha (by omega)
  have e2 : m * b ≤ m * c := Int.mul_le_mul_of_nonneg_left hb h0
  have e3 : (k - m) * c + m * c = k * c := by grind
  omega
theorem le_mean {k m a b c : Int} (h0 : 0 ≤ m) (h1 : m ≤ k) (ha : c ≤ a) (hb : c ≤ b) : k * c ≤ (k - m) * a + m * b := by
  have e1 : (k - m) * c ≤ (k - m) * a := Int.mul_le_mul_of_nonneg_left ha (by omega)
  have e2 : m * c ≤ m * b := Int.mul_le_mul_of_nonneg_left hb h0
  have e3 : (k - m) * c + m * c = k * c := by grind
  omega
theorem convP {k m w v s u : Int} (hk : 0 < k) (m0 : 0 ≤ m) (m1 : m ≤ k) (s0 : 0 ≤ s) (s1 : s ≤ k) (h : k * w + m * v = s * u) : ovI u w v := by
  have h1 : k * w + m * v = (k - m) * w + m * (w + v) := by grind
  have h2 : s * u = (k - s) * 0 + s * u := by grind
  have a1 := mean_le (k := k) (m := m) (a := w) (b := w + v) (c := max w (w + v)) m0 m1 (by omega) (by omega)
  have a2 := le_mean (k := k) (m := m) (a := w) (b := w + v) (c := min w (w + v)) m0 m1 (by omega) (by omega)
  have a3 := mean_le (k := k) (m := s) (a := 0) (b := u) (c := max 0 u) s0 s1 (by omega) (by omega)
  have a4 := le_mean (k := k) (m := s) (a := 0) (b := u) (c := min 0 u) s0 s1 (by omega) (by omega)
  unfold ovI
  constructor
  · exact Int.le_of_mul_le_mul_left (by omega : k * min 0 u ≤ k * max w (w + v)) hk
  · exact Int.le_of_mul_le_mul_left (by omega : k * min w (w + v) ≤ k * max 0 u) hk
/-- between 0 and k, of any sign: a mean lies inside -/
theorem conv {k m w v s u : Int} (hk : k ≠ 0) (hm : bt k m) (hs : bt k s) (h : k * w + m * v = s * u) : ovI u w v := by
  unfold bt at hm hs
  rcases Int.lt_or_gt_of_ne hk with z | z
  · exact convP (k := -k) (m := -m) (s := -s) (by omega) (by omega) (by omega) (by omega) (by omega) (by grind)
  · exact convP z (by omega) (by omega) (by omega) (by omega) h
theorem seg {ux uy vx vy w1 w2 : Int} (hu : ux ≠ 0 ∨ uy ≠ 0) (hv : vx ≠ 0 ∨ vy ≠ 0) :
    (ops (ux * w2 - uy * w1) (ux * w2 - uy * w1 + (ux * vy - uy * vx)) ∧ ops (w1 * vy - w2 * vx) (w1 * vy - w2 * vx - (ux * vy - uy * vx)) ∧ ovI ux w1 vx ∧ ovI uy w2 vy) ↔
    ((w1 * vy - w2 * vx = 0 ∧ bt vx (-w1) ∧ bt vy (-w2)) ∨ (w1 * vy - w2 * vx - (ux * vy - uy * vx) = 0 ∧ bt vx (ux - w1) ∧ bt vy (uy - w2)) ∨ (ux * w2 - uy * w1 = 0 ∧ bt ux w1 ∧ bt uy w2) ∨ (ux * w2 - uy * w1 + (ux * vy - uy * vx) = 0 ∧ bt ux (w1 + vx) ∧ bt uy (w2 + vy)) ∨ ((ux * w2 - uy * w1) * (ux * w2 - uy * w1 + (ux * vy - uy * vx)) < 0 ∧ (w1 * vy - w2 * vx) * (w1 * vy - w2 * vx - (ux * vy - uy * vx)) < 0)) := by
  sorry
