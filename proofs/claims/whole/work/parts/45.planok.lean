/-! MOUNTS, the numbers: the planner's way is the greedy one. -/
def bI (b : Bool) : Nat := if b = true then 1 else 0
/-- the best shares: all rides under the threshold, some of those at it -/
def Tc (n : Nat) (D0 : Nat → Nat) (S0 : Nat → Bool) (R : Nat) (s : Nat → Nat) : Prop := (∀ j, j < n → D0 j ≤ s j ∧ s j ≤ D0 j + bI (S0 j)) ∧ sumN s n = R
theorem sumN_congr {f g : Nat → Nat} : ∀ {n}, (∀ j, j < n → f j = g j) → sumN f n = sumN g n := by
  intro n
  induction n with
  | zero => intro _; rfl
  | succ n ih =>
    intro h
    show sumN f n + f n = sumN g n + g n
    rw [ih (fun j hj => h j (by omega)), h n (by omega)]
theorem Tc_TX (n : Nat) (D0 : Nat → Nat) (S0 : Nat → Bool) (R : Nat) : TX n (Tc n D0 S0 R) := by
  intro s s' h ⟨h1, h2⟩
  refine ⟨fun j hj => ?_, ?_⟩
  · rw [← h j hj]; exact h1 j hj
  · rw [← sumN_congr h]; exact h2
/-- the planner's numbers after u -/
def CI (n : Nat) (D0 : Nat → Nat) (S0 : Nat → Bool) (R : Nat) (u D : Nat → Nat) (S : Nat → Bool) (sd : Nat) : Prop := (∀ j, j < n → (u j ≤ D0 j ∧ D j = D0 j - u j ∧ S j = S0 j) ∨ (u j = D0 j + 1 ∧ S0 j = true ∧ D j = 0 ∧ S j = false)) ∧ sumN u n + sumN D n + sd = R
theorem sumN_add (f g : Nat → Nat) : ∀ n, sumN (fun j => f j + g j) n = sumN f n + sumN g n := by
  intro n
  induction n with
  | zero => rfl
  | succ n ih =>
    show sumN (fun j => f j + g j) n + (f n + g n) = sumN f n + f n + (sumN g n + g n)
    rw [ih]; omega
theorem sumN_bI (P : Nat → Bool) : ∀ n, sumN (fun j => bI (P j)) n = cnB P n := by
  intro n
  induction n with
  | zero => rfl
  | succ n ih => show sumN (fun j => bI (P j)) n + bI (P n) = cnB P n + _; rw [ih]; rfl
theorem cnB_first (P : Nat → Bool) (k : Nat) : ∀ n, sumN (fun j => bI (P j && decide (cnB P j < k))) n = min k (cnB P n) := by
  intro n
  induction n with
  | zero => show 0 = min k 0; omega
  | succ n ih =>
    show sumN (fun j => bI (P j && decide (cnB P j < k))) n + bI (P n && decide (cnB P n < k)) = min k (cnB P n + (if P n = true then 1 else 0))
    rw [ih]
    unfold bI
    cases hp : P n with
    | false => simp
    | true =>
      by_cases hk : cnB P n < k
      · rw [decide_eq_true hk]; simp; omega
      · rw [decide_eq_false hk]; simp; omega
theorem sumN_mono' {f g : Nat → Nat} {n : Nat} (h : ∀ j, j < n → f j ≤ g j) : sumN f n ≤ sumN g n := sumN_mono h
theorem mq_mo (i m j : Nat) : mq (some i) m j = mo i m j := by
  unfold mq mo
  by_cases h : j = i
  · rw [if_pos (by rw [h]), if_pos h]
  · rw [if_neg (fun w => h (by cases w; rfl)), if_neg h]
theorem cp_feas {n R i m sd : Nat} {D0 u D : Nat → Nat} {S0 S : Nat → Bool} (hc : CI n D0 S0 R u D S sd) (hR : R ≤ sumN u n + m) : cpB D S sd i m n = true ↔ Feas n (Tc n D0 S0 R) m (some i) u := by
  obtain ⟨h1, h2⟩ := hc
  unfold cpB
  rw [Bool.and_eq_true, decide_eq_true_eq, decide_eq_true_eq]
  constructor
  · rintro ⟨hD, hs⟩
    refine ⟨fun j => (u j + D j) + bI (fitB D S i m j && decide (cnB (fitB D S i m) j < sd)), ⟨fun j hj => ?_, ?_⟩, fun j hj => ?_, ?_, fun j hj => ?_⟩
    · show D0 j ≤ (u j + D j) + bI (fitB D S i m j && decide (cnB (fitB D S i m) j < sd)) ∧ (u j + D j) + bI (fitB D S i m j && decide (cnB (fitB D S i m) j < sd)) ≤ D0 j + bI (S0 j)
      have hx : bI (fitB D S i m j && decide (cnB (fitB D S i m) j < sd)) ≤ bI (S j) := by
        unfold fitB bI
        cases S j with
        | true => simp; split <;> omega
        | false => simp
      rcases h1 j hj with ⟨a1, a2, a3⟩ | ⟨a1, a2, a3, a4⟩
      · rw [a3] at hx; omega
      · rw [a4] at hx
        have e0 : bI false = 0 := rfl
        have e1 : bI true = 1 := rfl
        rw [a2, e1]
        rw [e0] at hx
        omega
    · rw [sumN_add, sumN_add, cnB_first]
      omega
    · show u j ≤ (u j + D j) + _
      omega
    · rw [sumN_add, sumN_add, cnB_first]
      omega
    · rw [mq_mo]
      show (u j + D j) + bI (fitB D S i m j && decide (cnB (fitB D S i m) j < sd)) - u j ≤ mo i m j
      have a := hD j hj
      cases hf : fitB D S i m j with
      | false => rw [Bool.false_and]; show u j + D j + 0 - u j ≤ _; omega
      | true =>
        have : D j < mo i m j := by
          unfold fitB at hf
          rw [Bool.and_eq_true, decide_eq_true_eq] at hf
          exact hf.2
        have hle : bI (true && decide (cnB (fitB D S i m) j < sd)) ≤ 1 := by unfold bI; split <;> omega
        omega
  · rintro ⟨s, ⟨t1, t2⟩, t3, t4, t5⟩
    have hge : ∀ j, j < n → u j + D j ≤ s j := by
      intro j hj
      have b1 := t1 j hj
      have b2 := t3 j hj
      rcases h1 j hj with ⟨a1, a2, a3⟩ | ⟨a1, a2, a3, a4⟩ <;> omega
    have hm : ∀ j, j < n → s j - u j ≤ mo i m j := fun j hj => by have := t5 j hj; rw [mq_mo] at this; exact this
    refine ⟨fun j hj => ?_, ?_⟩
    · have b1 := hge j hj
      have b2 := hm j hj
      omega
    · have hx : ∀ j, j < n → s j ≤ (u j + D j) + bI (fitB D S i m j) := by
        intro j hj
        have b1 := t1 j hj
        have b2 := hm j hj
        have b3 := hge j hj
        rcases h1 j hj with ⟨a1, a2, a3⟩ | ⟨a1, a2, a3, a4⟩
        · by_cases q : s j ≤ u j + D j
          · omega
          · have hS : S j = true := by
              rw [a3]
              cases hs0 : S0 j with
              | true => rfl
              | false => rw [hs0] at b1; have : bI false = 0 := rfl; omega
            have hf : fitB D S i m j = true := by unfold fitB; rw [hS, decide_eq_true (by omega)]; rfl
            rw [hf]
            have e1 : bI true = 1 := rfl
            rw [← a3, hS, e1] at b1
            rw [e1]
            omega
        · rw [a2] at b1
          have e1 : bI true = 1 := rfl
          omega
      have h3 := sumN_mono' (n := n) hx
      rw [sumN_add, sumN_add, sumN_bI] at h3
      omega
theorem CI.take {n R i sd : Nat} {D0 u D : Nat → Nat} {S0 S : Nat → Bool} (hc : CI n D0 S0 R u D S sd) (hi : i < n) (ha : avB D S sd i = true) : CI n D0 S0 R (up1 u i) (tkD D i) (tkS D S i) (tkd D sd i) := by
  obtain ⟨h1, h2⟩ := hc
  unfold tkD tkS tkd
  by_cases hd : 0 < D i
  · rw [if_pos hd, if_pos hd, if_pos hd]
    refine ⟨fun j hj => ?_, ?_⟩
    · by_cases q : j = i
      · subst q
        rw [up1_same, updN_same]
        rcases h1 j hj with ⟨a1, a2, a3⟩ | ⟨a1, a2, a3, a4⟩
        · exact Or.inl ⟨by omega, by omega, a3⟩
        · omega
      · rw [up1_ne u q, updN_ne _ _ q]; exact h1 j hj
    · rw [up1_sum u hi]
      have := sumN_upd D i (D i - 1) n hi
      omega
  · rw [if_neg hd, if_neg hd, if_neg hd]
    unfold avB at ha
    rw [decide_eq_false hd, Bool.false_or, Bool.and_eq_true, decide_eq_true_eq] at ha
    refine ⟨fun j hj => ?_, ?_⟩
    · by_cases q : j = i
      · subst q
        rw [up1_same]
        rcases h1 j hj with ⟨a1, a2, a3⟩ | ⟨a1, a2, a3, a4⟩
        · refine Or.inr ⟨by omega, by rw [← a3]; exact ha.1, by omega, ?_⟩
          unfold updB; rw [if_pos rfl]
        · rw [a4] at ha; exact absurd ha.1 (by decide)
      · rw [up1_ne u q]
        unfold updB; rw [if_neg q]; exact h1 j hj
    · rw [up1_sum u hi]
      omega
theorem cw_ext {n R i m sd : Nat} {D0 u D : Nat → Nat} {S0 S : Nat → Bool} (hc : CI n D0 S0 R u D S sd) (hi : i < n) (hR : R ≤ sumN u n + (m + 1)) : cwB D S sd m n i = true ↔ Ext n (Tc n D0 S0 R) m (some i) (up1 u i) := by
  rw [ext_feas (Tc_TX n D0 S0 R)]
  unfold cwB
  cases ha : avB D S sd i with
  | true =>
    rw [Bool.true_and]
    exact cp_feas (hc.take hi ha) (by rw [up1_sum u hi]; omega)
  | false =>
    rw [Bool.false_and]
    refine ⟨fun h => absurd h (by decide), fun h => ?_⟩
    exfalso
    obtain ⟨s, ⟨t1, t2⟩, t3, t4, t5⟩ := h
    obtain ⟨h1, h2⟩ := hc
    unfold avB at ha
    rw [Bool.or_eq_false_iff, decide_eq_false_iff_not, Bool.and_eq_false_iff, decide_eq_false_iff_not] at ha
    have hs := t3 i hi
    rw [up1_same] at hs
    have hge : ∀ j, j < n → u j + D j ≤ s j := by
      intro j hj
      have b1 := t1 j hj
      have b2 := t3 j hj
      have b3 : u j ≤ s j := by
        by_cases q : j = i
        · subst q; omega
        · rw [up1_ne u q] at b2; exact b2
      rcases h1 j hj with ⟨a1, a2, a3⟩ | ⟨a1, a2, a3, a4⟩ <;> omega
    have b1 := t1 i hi
    rcases h1 i hi with ⟨a1, a2, a3⟩ | ⟨a1, a2, a3, a4⟩
    · have hS : S i = true := by
        rw [a3]
        cases hs0 : S0 i with
        | true => rfl
        | false => rw [hs0] at b1; have : bI false = 0 := rfl; omega
      have hsd : ¬ 0 < sd := ha.2.resolve_left (by rw [hS]; decide)
      have h5 := sumN_one (s := s) (u := fun j => u j + D j) (n := n) hge i hi
      rw [sumN_add] at h5
      omega
    · rw [a2] at b1
      have e1 : bI true = 1 := rfl
      omega
theorem feas_R {n R m : Nat} {D0 u : Nat → Nat} {S0 : Nat → Bool} {lo : Option Nat} (h : Ext n (Tc n D0 S0 R) m lo u) : R ≤ sumN u n + m := by
  obtain ⟨s, ⟨t1, t2⟩, t3, t4, t5⟩ := (ext_feas (Tc_TX n D0 S0 R) m lo u).mp h
  omega
theorem plW_gr {n R : Nat} {D0 : Nat → Nat} {S0 : Nat → Bool} : ∀ m lo u D S sd, CI n D0 S0 R u D S sd → Ext n (Tc n D0 S0 R) m lo u → Gr n (Tc n D0 S0 R) m lo u (plW n m lo D S sd) := by
  intro m
  induction m with
  | zero => intro lo u D S sd _ _; rfl
  | succ m ih =>
    intro lo u D S sd hc he
    have hR := feas_R he
    have hnx : ∀ i, i < n → (nxB D S sd m n lo i = true ↔ (lo ≠ some i ∧ Ext n (Tc n D0 S0 R) m (some i) (up1 u i))) := by
      intro i hi
      unfold nxB
      rw [Bool.and_eq_true, Bool.not_eq_true', decide_eq_false_iff_not, cw_ext hc hi hR]
    show ∃ x w', _ ∧ _
    refine ⟨fsP (nxB D S sd m n lo) n 0, _, rfl, ?_, ?_⟩
    · cases hr : fsP (nxB D S sd m n lo) n 0 with
      | none =>
        intro j hj hh
        have := fsP_none hr j (by omega) (by omega)
        rw [(hnx j hj).mpr hh] at this
        exact absurd this (by decide)
      | some i =>
        obtain ⟨_, b2, b3, b4⟩ := fsP_some hr
        refine ⟨by omega, (hnx i (by omega)).mp b3, fun j hj hh => ?_⟩
        have := b4 j (by omega) hj
        rw [(hnx j (by omega)).mpr hh] at this
        exact absurd this (by decide)
    · cases hr : fsP (nxB D S sd m n lo) n 0 with
      | none =>
        refine ih none u D S sd hc ?_
        rcases he with ⟨i, hi, hlo, hh⟩ | hh
        · have := fsP_none hr i (by omega) (by omega)
          rw [(hnx i hi).mpr ⟨hlo, hh⟩] at this
          exact absurd this (by decide)
        · exact hh
      | some i =>
        obtain ⟨_, b2, b3, _⟩ := fsP_some hr
        have hi : i < n := by omega
        have hav : avB D S sd i = true := by
          unfold nxB cwB at b3
          rw [Bool.and_eq_true, Bool.and_eq_true] at b3
          exact b3.2.1
        exact ih (some i) (up1 u i) (tkD D i) (tkS D S i) (tkd D sd i) (hc.take hi hav) ((hnx i hi).mp b3).2
/-- the planner's way, from its filling -/
theorem plan_gr {Q C d : Nat → Nat} {n R th N : Nat} (hg : GI Q C d n R th) (hN : 1 ≤ N) (hR : R ≤ N) (hfull : R = N ∨ ∀ j, j < n → ¬ d j < C j) (hC : ∀ j, j < n → C j ≤ (N + 1) / 2) (hR0 : R = 0 → ∀ j, j < n → C j = 0) : Ext n (Tc n (dF0 Q C th) (sF0 Q C th) R) N none (fun _ => 0) ∧ Gr n (Tc n (dF0 Q C th) (sF0 Q C th) R) N none (fun _ => 0) (plW n N none (dF0 Q C th) (sF0 Q C th) (R - sumN (dF0 Q C th) n)) := by
  have hsp := hg.split hR0
  have hz : sumN (fun _ => 0) n = 0 := sumN_zero (fun _ _ => rfl)
  have hsum : sumN (dF0 Q C th) n ≤ R := by rw [← hg.2.1]; exact sumN_mono (fun j hj => (hsp j hj).1)
  have hci : CI n (dF0 Q C th) (sF0 Q C th) R (fun _ => 0) (dF0 Q C th) (sF0 Q C th) (R - sumN (dF0 Q C th) n) := ⟨fun j _ => Or.inl ⟨Nat.zero_le _, (Nat.sub_zero _).symm, rfl⟩, by omega⟩
  have hext : Ext n (Tc n (dF0 Q C th) (sF0 Q C th) R) N none (fun _ => 0) := by
    refine (ext_feas (Tc_TX _ _ _ _) N none _).mpr ⟨d, ⟨hsp, hg.2.1⟩, fun j _ => Nat.zero_le _, by rw [hz, hg.2.1]; omega, fun j hj => ?_⟩
    rw [mq_ne N (by intro w; cases w)]
    have h1 := hg.1 j hj
    have h2 := hC j hj
    omega
  exact ⟨hext, plW_gr N none _ _ _ _ hci hext⟩
