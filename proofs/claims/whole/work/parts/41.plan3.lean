/-! CONTRACTS: the planner takes the first that completes. -/
def mo (i m j : Nat) : Nat := (if j = i then m else m + 1) / 2
def fitB (D : Nat → Nat) (S : Nat → Bool) (i m : Nat) : Nat → Bool := fun j => S j && decide (D j < mo i m j)
def cpB (D : Nat → Nat) (S : Nat → Bool) (sd i m n : Nat) : Bool := decide (∀ j, j < n → D j ≤ mo i m j) && decide (sd ≤ cnB (fitB D S i m) n)
theorem c_X2_completes {l : Launch} (hl : l.stackTraces = false) (M : Mem) (o : Ou) {n i m sd : Nat} {D : Nat → Nat} {S : Nat → Bool} (hn : n ≤ 8) (hm : m ≤ 6) (hi : i < n) (bs : sd ≤ 6) (bD : ∀ j, j < n → D j ≤ 2) (hf : M 9 6 = nI n) (hD : Nv (M 27) D n) (hS : Bv (M 28) S n) (hs : M 9 8 = nI sd) : Ct l 8 0 31 [.ref 9, .int (nI i), .int (nI m)] M o (rI (cond (cpB D S sd i m n) 1 0) M o) nX := by
  refine ct_plain hl ok31 (by decide) (by decide) rfl rfl (by decide) (Nat.le_of_ble_eq_true rfl) (fun G hG => hG 0 _ _ _ _ _ ?_)
  have key : ∀ q j x, j + q = n → (∀ p, p < j → D p ≤ mo i m p) → G 5 [some (.ref 9), some (.int (nI i)), some (.int (nI m)), some (.int (nI (cnB (fitB D S i m) j))), some (.int (nI j)), x] [] M o 0 := by
    intro q
    induction q with
    | zero =>
      intro j x hj h1
      have : j = n := by omega
      subst this
      have hc := cnB_le (fitB D S i m) j
      refine hG 5 _ _ _ _ _ ?_
      refine ⟨fun _ => ?_, fun h => absurd (by rw [hf]; exact nI_le (by omega) (by omega)) h⟩
      refine hG 42 _ _ _ _ _ ?_
      refine ⟨fun h => ?_, fun h => ?_⟩
      · refine hG 48 _ _ _ _ _ ?_
        rw [hs] at h
        have h : cnB (fitB D S i m) j < sd := (nI_ltI (by omega) (by omega)).mp h
        exact ⟨bz0, ⟨by unfold cpB; rw [decide_eq_false (p := sd ≤ _) (by omega), Bool.and_false]; rfl, rfl, rfl⟩, Nat.le_refl _⟩
      · refine hG 49 _ _ _ _ _ ?_
        rw [hs] at h
        have h : ¬ cnB (fitB D S i m) j < sd := fun w => h (nI_lt w (by omega))
        exact ⟨bz1, ⟨by unfold cpB; rw [decide_eq_true h1, decide_eq_true (p := sd ≤ _) (by omega)]; rfl, rfl, rfl⟩, Nat.le_refl _⟩
    | succ q ih =>
      intro j x hj h1
      have hlt : j < n := by omega
      have bd := bD j hlt
      have e1 : (nI j).toNatClampNeg = j := nI_clamp (by omega)
      have i8 : vp_in (nI j) 8 := vp_in_nI (by omega) (by decide)
      have hmo : mo i m j ≤ 3 := by unfold mo; split <;> omega
      -- from the reading on
      have k24 : ∀ y v, y = nI (mo i m j) → v = nI (D j) → XS l 8 0 e31 (rI (cond (cpB D S sd i m n) 1 0) M o) nX G 24 [some (.ref 9), some (.int (nI i)), some (.int (nI m)), some (.int (nI (cnB (fitB D S i m) j))), some (.int (nI j)), some (.int y)] [.int v] M o 0 := by
        intro y v hy hv
        subst hy hv
        refine ⟨fun h => ?_, fun h => ?_⟩
        · have h : D j ≤ mo i m j := (nI_leI (by omega) (by omega)).mp h
          have h1' : ∀ p, p < j + 1 → D p ≤ mo i m p := fun p hp => by
            by_cases w : p = j
            · subst w; exact h
            · exact h1 p (by omega)
          have no : fitB D S i m j = false → G 40 [some (.ref 9), some (.int (nI i)), some (.int (nI m)), some (.int (nI (cnB (fitB D S i m) j))), some (.int (nI j)), some (.int (nI (mo i m j)))] [] M o 0 := by
            intro hp
            refine hG 40 _ _ _ _ _ ?_
            have hnx := ih (j + 1) (some (.int (nI (mo i m j)))) (by omega) h1'
            rw [show cnB (fitB D S i m) (j + 1) = cnB (fitB D S i m) j by simp only [cnB]; rw [hp]; simp, ← nI_1] at hnx
            exact hnx
          refine hG 28 _ _ _ _ _ ?_
          refine ⟨i8, ?_⟩
          rw [e1, hS j hlt]
          refine ⟨fun h2 => no (by unfold fitB; rw [cond_z h2]; rfl), fun h2 => ⟨i8, ?_⟩⟩
          rw [e1, hD j hlt]
          refine ⟨fun h3 => no ?_, fun h3 => ?_⟩
          · have h3 : mo i m j ≤ D j := (nI_leI (by omega) (by omega)).mp h3
            unfold fitB; rw [decide_eq_false (by omega), Bool.and_false]
          · have h3 : D j < mo i m j := Nat.not_le.mp (fun w => h3 (nI_le w (by omega)))
            have hp : fitB D S i m j = true := by unfold fitB; rw [cond_n h2, decide_eq_true h3]; rfl
            have hnx := ih (j + 1) (some (.int (nI (mo i m j)))) (by omega) h1'
            rw [show cnB (fitB D S i m) (j + 1) = cnB (fitB D S i m) j + 1 by simp only [cnB]; rw [if_pos hp], ← nI_1, ← nI_1] at hnx
            exact hnx
        · have h : ¬ D j ≤ mo i m j := fun w => h (nI_le w (by omega))
          exact ⟨bz0, ⟨by unfold cpB; rw [decide_eq_false (fun w => h (w j hlt))]; rfl, rfl, rfl⟩, Nat.le_refl _⟩
      refine hG 5 _ _ _ _ _ ?_
      refine ⟨fun h => absurd (by rw [← hf]; exact h) (nI_ge (a := j) (b := n) (by omega) (by omega)), fun _ => ⟨fun h => ?_, fun h => ?_⟩⟩
      · have h : ¬ j = i := fun w => h (by rw [w])
        refine hG 14 _ _ _ _ _ ?_
        refine ⟨by decide, i8, ?_⟩
        exact k24 _ _ (by unfold mo; rw [if_neg h, nI_1, i2, pk_div (by omega) (by decide) (by decide)]) (by rw [e1]; exact hD j hlt)
      · have h : j = i := nI_inj (by omega) (by omega) h
        refine hG 17 _ _ _ _ _ ?_
        refine ⟨by decide, i8, ?_⟩
        exact k24 _ _ (by unfold mo; rw [if_pos h, i2, pk_div (by omega) (by decide) (by decide)]) (by rw [e1]; exact hD j hlt)
  exact key n 0 none (by omega) (fun p hp => absurd hp (Nat.not_lt_zero _))
def avB (D : Nat → Nat) (S : Nat → Bool) (sd i : Nat) : Bool := decide (0 < D i) || (S i && decide (0 < sd))
def tkD (D : Nat → Nat) (i : Nat) : Nat → Nat := if 0 < D i then updN D i (D i - 1) else D
def tkS (D : Nat → Nat) (S : Nat → Bool) (i : Nat) : Nat → Bool := if 0 < D i then S else updB S i false
def tkd (D : Nat → Nat) (sd i : Nat) : Nat := if 0 < D i then sd else sd - 1
def cwB (D : Nat → Nat) (S : Nat → Bool) (sd m n i : Nat) : Bool := avB D S sd i && cpB (tkD D i) (tkS D S i) (tkd D sd i) i m n
def tkM (M : Mem) (D : Nat → Nat) (sd i : Nat) : Mem := if 0 < D i then mset M 27 i (nI (D i - 1)) else mset (mset M 28 i 0) 9 8 (nI (sd - 1))
theorem c_X2_completesWith {l : Launch} (hl : l.stackTraces = false) (M : Mem) (o : Ou) {n i m sd : Nat} {D : Nat → Nat} {S : Nat → Bool} (hn : n ≤ 8) (hm : m ≤ 6) (hi : i < n) (bs : sd ≤ 6) (bD : ∀ j, j < n → D j ≤ 2) (hf : M 9 6 = nI n) (hD : Nv (M 27) D n) (hS : Bv (M 28) S n) (hs : M 9 8 = nI sd) : Ct l 9 0 30 [.ref 9, .int (nI i), .int (nI m)] M o (rI (cond (cwB D S sd m n i) 1 0) (cond (cwB D S sd m n i) (tkM M D sd i) M) o) nX := by
  have e1 : (nI i).toNatClampNeg = i := nI_clamp (by omega)
  have i8 : vp_in (nI i) 8 := vp_in_nI (by omega) (by decide)
  have bd := bD i hi
  refine ct_plain hl ok30 (by decide) (by decide) rfl rfl (by decide) (Nat.le_of_ble_eq_true rfl) (fun G hG => hG 0 _ _ _ _ _ ?_)
  refine ⟨i8, ?_⟩
  rw [e1, hD i hi]
  refine ⟨fun h => ?_, fun h => ?_⟩
  · have h : ¬ 0 < D i := fun w => nI_nle w (by omega) h
    refine hG 30 _ _ _ _ _ ?_
    refine ⟨i8, ?_⟩
    rw [e1, hS i hi]
    have no : avB D S sd i = false → G 38 [some (.ref 9), some (.int (nI i)), some (.int (nI m))] [] M o 0 := by
      intro w
      have hc : cwB D S sd m n i = false := by unfold cwB; rw [w]; rfl
      refine hG 38 _ _ _ _ _ ?_
      rw [hc]
      exact ⟨bz0, ⟨rfl, rfl, rfl⟩, Nat.le_refl _⟩
    refine ⟨fun h2 => no (by unfold avB; rw [decide_eq_false h, cond_z h2]; rfl), fun h2 => ⟨fun h3 => ?_, fun h3 => ?_⟩⟩
    · have h3 : 0 < sd := by
        rcases Nat.eq_zero_or_pos sd with w | w
        · rw [hs, w] at h3; exact absurd h3 (by decide)
        · exact w
      have hsi := cond_n h2
      have hav : avB D S sd i = true := by unfold avB; rw [hsi, decide_eq_true h3]; simp
      have e3 : M 9 8 - 1 = nI (sd - 1) := by rw [hs, ← nI_pred (sd - 1), show sd - 1 + 1 = sd by omega]
      have hM1 : tkM M D sd i = mset (mset M 28 i 0) 9 8 (nI (sd - 1)) := by unfold tkM; rw [if_neg h]
      refine hG 40 _ _ _ _ _ ?_
      refine ⟨i8, bz0, ?_⟩
      rw [e1]
      have hcp := c_X2_completes hl (tkM M D sd i) o (n := n) (i := i) (m := m) (sd := sd - 1) (D := D) (S := updB S i false) hn hm hi (by omega) bD (by rw [hM1]; exact hf) (by rw [hM1]; exact hD) (by rw [hM1]; exact hS.up i false) (by rw [hM1]; rfl)
      have hcw : cwB D S sd m n i = cpB D (updB S i false) (sd - 1) i m n := by unfold cwB tkD tkS tkd; rw [hav, if_neg h, if_neg h, if_neg h]; rfl
      have e4 : tkM M D sd i = mset (mset M 28 i 0) 9 8 (M 9 8 - 1) := by rw [hM1, e3]
      rw [← hcw] at hcp
      rw [e4] at hcp hG
      refine clI hcp (by decide) (by decide) ⟨fun h4 => ?_, fun h4 => ?_⟩
      · refine hG 58 _ _ _ _ _ ?_
        rw [cond_z h4] at hG ⊢
        refine ⟨i8, bz1, bz0, ⟨rfl, ?_, rfl⟩, Nat.le_refl _⟩
        rw [e1]
        funext z
        by_cases w1 : z = 28
        · subst w1
          show upd (upd (M 28) i 0) i 1 = M 28
          funext y
          by_cases w2 : y = i
          · subst w2; rw [pk_us, hS y hi, hsi]; rfl
          · rw [pk_un w2, pk_un w2]
        by_cases w2 : z = 9
        · subst w2
          have : mset (mset M 9 8 (M 9 8 - 1)) 9 8 (M 9 8 - 1 + 1) = M := by
            rw [mset_mset, Int32.sub_add_cancel]; exact mset_self M 9 8
          exact congrFun this 9
        · simp [mset, w1, w2]
      · rw [cond_n h4]
        exact ⟨bz1, ⟨rfl, e4.symm, rfl⟩, Nat.le_refl _⟩
    · have h3 : ¬ 0 < sd := fun w => h3 (by rw [hs]; exact nI_lt (a := 0) w (by omega))
      have hc : cwB D S sd m n i = false := by unfold cwB avB; rw [decide_eq_false h, decide_eq_false h3, Bool.and_false]; rfl
      rw [hc]
      exact ⟨bz0, ⟨rfl, rfl, rfl⟩, Nat.le_refl _⟩
  · have h : 0 < D i := by
      rcases Nat.eq_zero_or_pos (D i) with w | w
      · rw [w] at h; exact absurd (by decide) h
      · exact w
    have hM1 : tkM M D sd i = mset M 27 i (nI (D i - 1)) := by unfold tkM; rw [if_pos h]
    have e3 : nI (D i) - 1 = nI (D i - 1) := by rw [← nI_pred (D i - 1), show D i - 1 + 1 = D i by omega]
    refine ⟨i8, i8, ?_⟩
    rw [e1, hD i hi, e3, ← hM1]
    have hcp := c_X2_completes hl (tkM M D sd i) o (n := n) (i := i) (m := m) (sd := sd) (D := updN D i (D i - 1)) (S := S) hn hm hi bs (fun j hj => by
      by_cases w : j = i
      · subst w; rw [updN_same]; omega
      · rw [updN_ne _ _ w]; exact bD j hj) (by rw [hM1]; exact hf) (by rw [hM1]; exact hD.up i _) (by rw [hM1]; exact hS) (by rw [hM1]; exact hs)
    have hcw : cwB D S sd m n i = cpB (updN D i (D i - 1)) S sd i m n := by unfold cwB tkD tkS tkd avB; rw [decide_eq_true h, if_pos h, if_pos h, if_pos h]; rfl
    rw [← hcw] at hcp
    refine clI hcp (by decide) (by decide) ⟨fun h4 => ?_, fun h4 => ?_⟩
    · refine hG 20 _ _ _ _ _ ?_
      rw [cond_z h4] at hG ⊢
      refine ⟨i8, i8, bz0, ⟨rfl, ?_, rfl⟩, Nat.le_refl _⟩
      rw [e1, hM1, mset_mset, show mset M 27 i (nI (D i - 1)) 27 i = nI (D i - 1) from mset_same _ _ _ _, nI_1, show D i - 1 + 1 = D i by omega, ← hD i hi]
      exact mset_self M 27 i
    · rw [cond_n h4] at hG ⊢
      exact ⟨bz1, ⟨rfl, rfl, rfl⟩, Nat.le_refl _⟩
def fsP (P : Nat → Bool) : Nat → Nat → Option Nat
  | 0, _ => none
  | m + 1, j => if P j = true then some j else fsP P m (j + 1)
theorem fsP_some {P : Nat → Bool} : ∀ {m j i}, fsP P m j = some i → j ≤ i ∧ i < j + m ∧ P i = true ∧ ∀ q, j ≤ q → q < i → P q = false := by
  intro m
  induction m with
  | zero => intro j i h; cases h
  | succ m ih =>
    intro j i h
    unfold fsP at h
    split at h
    · rename_i hp
      cases h
      exact ⟨Nat.le_refl _, by omega, hp, fun q h1 h2 => by omega⟩
    · rename_i hp
      have := ih h
      refine ⟨by omega, by omega, this.2.2.1, fun q h1 h2 => ?_⟩
      by_cases w : q = j
      · subst w; exact Bool.eq_false_iff.mpr hp
      · exact this.2.2.2 q (by omega) h2
theorem fsP_none {P : Nat → Bool} : ∀ {m j}, fsP P m j = none → ∀ q, j ≤ q → q < j + m → P q = false := by
  intro m
  induction m with
  | zero => intro j _ q h1 h2; omega
  | succ m ih =>
    intro j h q h1 h2
    unfold fsP at h
    split at h
    · cases h
    · rename_i hp
      by_cases w : q = j
      · subst w; exact Bool.eq_false_iff.mpr hp
      · exact ih h q (by omega) (by omega)
/-- may this one be next -/
def nxB (D : Nat → Nat) (S : Nat → Bool) (sd m n : Nat) (lo : Option Nat) : Nat → Bool := fun j => !decide (lo = some j) && cwB D S sd m n j
def ftM (M : Mem) (D : Nat → Nat) (sd : Nat) : Option Nat → Mem
  | none => M
  | some i => tkM M D sd i
theorem c_X2_firstThatCompletes {l : Launch} (hl : l.stackTraces = false) (M : Mem) (o : Ou) {n m sd : Nat} {D : Nat → Nat} {S : Nat → Bool} (lo : Option Nat) (hlo : ∀ q, lo = some q → q < n) (hn : n ≤ 8) (hm : m ≤ 6) (bs : sd ≤ 6) (bD : ∀ j, j < n → D j ≤ 2) (hf : M 9 6 = nI n) (hD : Nv (M 27) D n) (hS : Bv (M 28) S n) (hs : M 9 8 = nI sd) : Ct l 10 0 29 [.ref 9, .int (oI lo), .int (nI m)] M o (rI (oI (fsP (nxB D S sd m n lo) n 0)) (ftM M D sd (fsP (nxB D S sd m n lo) n 0)) o) nX := by
  have hloI : ∀ j, j < n → (nI j = oI lo ↔ lo = some j) := by
    intro j hj
    cases hq : lo with
    | none => exact ⟨fun h => absurd h (im1 j (by omega)), fun h => by cases h⟩
    | some q =>
      have := hlo q hq
      constructor
      · intro h; rw [nI_inj (by omega) (by omega) h]
      · intro h; cases h; rfl
  refine ct_plain hl ok29 (by decide) (by decide) rfl rfl (by decide) (Nat.le_of_ble_eq_true rfl) (fun G hG => hG 0 _ _ _ _ _ ?_)
  have key : ∀ q j, j + q = n → fsP (nxB D S sd m n lo) n 0 = fsP (nxB D S sd m n lo) q j → G 3 [some (.ref 9), some (.int (oI lo)), some (.int (nI m)), some (.int (nI j))] [] M o 0 := by
    intro q
    induction q with
    | zero =>
      intro j hj he
      refine hG 3 _ _ _ _ _ ?_
      refine ⟨fun _ => ?_, fun h => absurd (by rw [hf]; exact nI_le (by omega) (by omega)) h⟩
      refine hG 19 _ _ _ _ _ ?_
      rw [he]
      exact ⟨⟨rfl, rfl, rfl⟩, Nat.le_refl _⟩
    | succ q ih =>
      intro j hj he
      have hlt : j < n := by omega
      have no : nxB D S sd m n lo j = false → G 17 [some (.ref 9), some (.int (oI lo)), some (.int (nI m)), some (.int (nI j))] [] M o 0 := by
        intro h
        refine hG 17 _ _ _ _ _ ?_
        have hnx := ih (j + 1) (by omega) (by rw [he]; exact if_neg (by rw [h]; decide))
        rw [← nI_1] at hnx
        exact hnx
      refine hG 3 _ _ _ _ _ ?_
      refine ⟨fun h => absurd (by rw [← hf]; exact h) (nI_ge (a := j) (b := n) (by omega) (by omega)), fun _ => ⟨fun h => no (by unfold nxB; rw [decide_eq_true ((hloI j hlt).mp h)]; rfl), fun h => ?_⟩⟩
      have h : ¬ lo = some j := fun w => h ((hloI j hlt).mpr w)
      refine clI (c_X2_completesWith hl M o hn hm hlt bs bD hf hD hS hs) (by decide) (by decide) ⟨fun h2 => ?_, fun h2 => ?_⟩
      · have hc := cond_z h2
        rw [hc]
        exact no (by unfold nxB; rw [hc, Bool.and_false])
      · have hc := cond_n h2
        rw [hc]
        have e : fsP (nxB D S sd m n lo) n 0 = some j := by rw [he]; exact if_pos (by unfold nxB; rw [hc, decide_eq_false h]; rfl)
        rw [e]
        exact ⟨⟨rfl, rfl, rfl⟩, Nat.le_refl _⟩
  exact key n 0 (by omega) rfl
