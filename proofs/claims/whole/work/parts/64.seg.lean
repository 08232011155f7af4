/-! THE LINE: stretches meet alike. -/
def bt (q p : Int) : Prop := (0 ≤ p ∧ p ≤ q) ∨ (q ≤ p ∧ p ≤ 0)
theorem btmul {k p s q : Int} (hk : k ≠ 0) (h : k * p = s * q) (hs : bt k s) : bt q p := by
  unfold bt at *
  rcases Int.lt_or_gt_of_ne hk with w | w
  · have hs : k ≤ s ∧ s ≤ 0 := by omega
    rcases Int.le_total 0 q with hq | hq
    · left
      constructor
      · refine Classical.byContradiction (fun z => ?_)
        have h1 : 0 < k * p := Int.mul_pos_of_neg_of_neg w (by omega)
        have h2 : s * q ≤ 0 := Int.mul_nonpos_of_nonpos_of_nonneg hs.2 hq
        omega
      · refine Classical.byContradiction (fun z => ?_)
        have h1 : k * p < k * q := Int.mul_lt_mul_of_neg_left (by omega) w
        have h2 : k * q ≤ s * q := Int.mul_le_mul_of_nonneg_right hs.1 hq
        omega
    · right
      constructor
      · refine Classical.byContradiction (fun z => ?_)
        have h1 : k * q < k * p := Int.mul_lt_mul_of_neg_left (by omega) w
        have h2 : s * q ≤ k * q := Int.mul_le_mul_of_nonpos_right hs.1 hq
        omega
      · refine Classical.byContradiction (fun z => ?_)
        have h1 : k * p < 0 := Int.mul_neg_of_neg_of_pos w (by omega)
        have h2 : 0 ≤ s * q := Int.mul_nonneg_of_nonpos_of_nonpos hs.2 hq
        omega
  · have hs : 0 ≤ s ∧ s ≤ k := by omega
    rcases Int.le_total 0 q with hq | hq
    · left
      constructor
      · refine Classical.byContradiction (fun z => ?_)
        have h1 : k * p < 0 := Int.mul_neg_of_pos_of_neg w (by omega)
        have h2 : 0 ≤ s * q := Int.mul_nonneg hs.1 hq
        omega
      · refine Classical.byContradiction (fun z => ?_)
        have h1 : k * q < k * p := Int.mul_lt_mul_of_pos_left (by omega) w
        have h2 : s * q ≤ k * q := Int.mul_le_mul_of_nonneg_right hs.2 hq
        omega
    · right
      constructor
      · refine Classical.byContradiction (fun z => ?_)
        have h1 : k * p < k * q := Int.mul_lt_mul_of_pos_left (by omega) w
        have h2 : k * q ≤ s * q := Int.mul_le_mul_of_nonpos_right hs.2 hq
        omega
      · refine Classical.byContradiction (fun z => ?_)
        have h1 : 0 < k * p := Int.mul_pos w (by omega)
        have h2 : s * q ≤ 0 := Int.mul_nonpos_of_nonneg_of_nonpos hs.1 hq
        omega
