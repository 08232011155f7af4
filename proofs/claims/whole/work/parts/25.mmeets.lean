/-! CONTRACTS: the reference's meeting of stretches. -/
def sgM (v : Int64) : Int32 := if v ≤ 0 then (if 0 ≤ v then 0 else -1) else 1
def tvM (ax ay bx bY cx cy : Int64) : Int64 := (bx - ax) * (cy - ay) - (bY - ay) * (cx - ax)
def tuM (ax ay bx bY cx cy : Int64) : Int32 := sgM (tvM ax ay bx bY cx cy)
theorem c_X8_turn {l : Launch} (hl : l.stackTraces = false) (M : Mem) (o : Ou) (ax ay bx bY cx cy : Int64) : Ct l 8 0 172 [.long ax, .long ay, .long bx, .long bY, .long cx, .long cy] M o (rI (tuM ax ay bx bY cx cy) M o) nX := by
  refine ct_plain hl ok172 (by decide) (by decide) rfl rfl (by decide) (Nat.le_of_ble_eq_true rfl) (fun G hG => hG 0 _ _ _ _ _ ?_)
  refine ⟨fun h => ?_, fun h => ?_⟩
  · refine hG 22 _ _ _ _ _ ?_
    have h : tvM ax ay bx bY cx cy ≤ 0 := (lg_cmp_le _ _).mp h
    refine ⟨fun h2 => ?_, fun h2 => ?_⟩
    · refine hG 28 _ _ _ _ _ ?_
      have h2 : 0 ≤ tvM ax ay bx bY cx cy := (lg_cmp_ge _ _).mp h2
      exact ⟨⟨by unfold tuM sgM; rw [if_pos h, if_pos h2], rfl, rfl⟩, Nat.le_refl _⟩
    · refine hG 29 _ _ _ _ _ ?_
      have h2 : ¬ 0 ≤ tvM ax ay bx bY cx cy := fun q => h2 ((lg_cmp_ge _ _).mpr q)
      exact ⟨⟨by unfold tuM sgM; rw [if_pos h, if_neg h2], rfl, rfl⟩, Nat.le_refl _⟩
  · refine hG 29 _ _ _ _ _ ?_
    have h : ¬ tvM ax ay bx bY cx cy ≤ 0 := fun q => h ((lg_cmp_le _ _).mpr q)
    exact ⟨⟨by unfold tuM sgM; rw [if_neg h], rfl, rfl⟩, Nat.le_refl _⟩
def btM (a b c : Int64) : Bool := if a < b then decide (a ≤ c) && decide (c ≤ b) else decide (b ≤ c) && decide (c ≤ a)
def onM (ax ay bx bY cx cy : Int64) : Bool := btM ax bx cx && btM ay bY cy
/-- the run of a body from an instruction on -/
abbrev XS (l : Launch) (d K : Nat) (em : List En) (post : Option Value → Mem → Ou → Prop) (px : String → Mem → Ou → Prop) (G : GG) (j : Nat) : NX :=
  exec G (fun v M o k => post v M o ∧ k ≤ K) (fun E M o k => px E M o ∧ k ≤ K) (fun E _ M o k => px E M o ∧ k ≤ K) (ClA l d K) (0, fun _ => 0) (em.drop j)
theorem c_X8_isOn {l : Launch} (hl : l.stackTraces = false) (M : Mem) (o : Ou) (ax ay bx bY cx cy : Int64) : Ct l 8 0 173 [.long ax, .long ay, .long bx, .long bY, .long cx, .long cy] M o (rI (cond (onM ax ay bx bY cx cy) 1 0) M o) nX := by
  refine ct_plain hl ok173 (by decide) (by decide) rfl rfl (by decide) (Nat.le_of_ble_eq_true rfl) (fun G hG => hG 0 _ _ _ _ _ ?_)
  have k55x : ∀ v, v = (cond (btM ay bY cy) 1 0 : Int32) → XS l 8 0 e173 (rI (cond (onM ax ay bx bY cx cy) 1 0) M o) nX G 55 [some (.long ax), none, some (.long ay), none, some (.long bx), none, some (.long bY), none, some (.long cx), none, some (.long cy), none, some (.int (cond (btM ax bx cx) 1 0)), none] [.int v] M o 0 := by
    intro v hv
    subst hv
    refine ⟨fun h => ?_, fun h => ⟨fun h2 => ?_, fun h2 => ?_⟩⟩
    · refine hG 62 _ _ _ _ _ ?_
      exact ⟨bz0, ⟨by unfold onM; rw [cond_z h]; rfl, rfl, rfl⟩, Nat.le_refl _⟩
    · refine hG 62 _ _ _ _ _ ?_
      exact ⟨bz0, ⟨by unfold onM; rw [cond_z h2, Bool.and_false]; rfl, rfl, rfl⟩, Nat.le_refl _⟩
    · refine hG 63 _ _ _ _ _ ?_
      exact ⟨bz1, ⟨by unfold onM; rw [cond_n h, cond_n h2]; rfl, rfl, rfl⟩, Nat.le_refl _⟩
  have k55 : ∀ v, v = (cond (btM ay bY cy) 1 0 : Int32) → G 55 [some (.long ax), none, some (.long ay), none, some (.long bx), none, some (.long bY), none, some (.long cx), none, some (.long cy), none, some (.int (cond (btM ax bx cx) 1 0)), none] [.int v] M o 0 := fun v hv => hG 55 _ _ _ _ _ (k55x v hv)
  have k27x : ∀ v, v = (cond (btM ax bx cx) 1 0 : Int32) → XS l 8 0 e173 (rI (cond (onM ax ay bx bY cx cy) 1 0) M o) nX G 27 [some (.long ax), none, some (.long ay), none, some (.long bx), none, some (.long bY), none, some (.long cx), none, some (.long cy), none, none, none] [.int v] M o 0 := by
    intro v hv
    subst hv
    refine ⟨fun h => ?_, fun h => ⟨fun h2 => ?_, fun h2 => ⟨fun h3 => ?_, fun h3 => ?_⟩⟩⟩
    · have h := Int64.not_lt.mpr ((lg_cmp_ge _ _).mp h)
      refine hG 44 _ _ _ _ _ ?_
      refine ⟨fun h2 => ?_, fun h2 => ⟨fun h3 => ?_, fun h3 => ?_⟩⟩
      · refine hG 54 _ _ _ _ _ ?_
        exact k55x 0 (by unfold btM; rw [if_neg h, decide_eq_false (Int64.not_le.mpr ((lg_cmp_lt _ _).mp h2))]; rfl)
      · refine hG 54 _ _ _ _ _ ?_
        exact k55x 0 (by unfold btM; rw [if_neg h, decide_eq_false (Int64.not_le.mpr ((lg_cmp_gt _ _).mp h3)), Bool.and_false]; rfl)
      · exact k55 1 (by unfold btM; rw [if_neg h, decide_eq_true (Int64.not_lt.mp (fun q => h2 ((lg_cmp_lt _ _).mpr q))), decide_eq_true (Int64.not_lt.mp (fun q => h3 ((lg_cmp_gt _ _).mpr q)))]; rfl)
    · have h := Int64.not_le.mp (fun q => h ((lg_cmp_ge _ _).mpr q))
      refine hG 42 _ _ _ _ _ ?_
      exact k55 0 (by unfold btM; rw [if_pos h, decide_eq_false (Int64.not_le.mpr ((lg_cmp_lt _ _).mp h2))]; rfl)
    · have h := Int64.not_le.mp (fun q => h ((lg_cmp_ge _ _).mpr q))
      refine hG 42 _ _ _ _ _ ?_
      exact k55 0 (by unfold btM; rw [if_pos h, decide_eq_false (Int64.not_le.mpr ((lg_cmp_gt _ _).mp h3)), Bool.and_false]; rfl)
    · have h := Int64.not_le.mp (fun q => h ((lg_cmp_ge _ _).mpr q))
      exact k55 1 (by unfold btM; rw [if_pos h, decide_eq_true (Int64.not_lt.mp (fun q => h2 ((lg_cmp_lt _ _).mpr q))), decide_eq_true (Int64.not_lt.mp (fun q => h3 ((lg_cmp_gt _ _).mpr q)))]; rfl)
  have k27 : ∀ v, v = (cond (btM ax bx cx) 1 0 : Int32) → G 27 [some (.long ax), none, some (.long ay), none, some (.long bx), none, some (.long bY), none, some (.long cx), none, some (.long cy), none, none, none] [.int v] M o 0 := fun v hv => hG 27 _ _ _ _ _ (k27x v hv)
  refine ⟨fun h => ?_, fun h => ⟨fun h2 => ?_, fun h2 => ⟨fun h3 => ?_, fun h3 => ?_⟩⟩⟩
  · have h := Int64.not_lt.mpr ((lg_cmp_ge _ _).mp h)
    refine hG 16 _ _ _ _ _ ?_
    refine ⟨fun h2 => ?_, fun h2 => ⟨fun h3 => ?_, fun h3 => ?_⟩⟩
    · refine hG 26 _ _ _ _ _ ?_
      exact k27x 0 (by unfold btM; rw [if_neg h, decide_eq_false (Int64.not_le.mpr ((lg_cmp_lt _ _).mp h2))]; rfl)
    · refine hG 26 _ _ _ _ _ ?_
      exact k27x 0 (by unfold btM; rw [if_neg h, decide_eq_false (Int64.not_le.mpr ((lg_cmp_gt _ _).mp h3)), Bool.and_false]; rfl)
    · exact k27 1 (by unfold btM; rw [if_neg h, decide_eq_true (Int64.not_lt.mp (fun q => h2 ((lg_cmp_lt _ _).mpr q))), decide_eq_true (Int64.not_lt.mp (fun q => h3 ((lg_cmp_gt _ _).mpr q)))]; rfl)
  · have h := Int64.not_le.mp (fun q => h ((lg_cmp_ge _ _).mpr q))
    refine hG 14 _ _ _ _ _ ?_
    exact k27 0 (by unfold btM; rw [if_pos h, decide_eq_false (Int64.not_le.mpr ((lg_cmp_lt _ _).mp h2))]; rfl)
  · have h := Int64.not_le.mp (fun q => h ((lg_cmp_ge _ _).mpr q))
    refine hG 14 _ _ _ _ _ ?_
    exact k27 0 (by unfold btM; rw [if_pos h, decide_eq_false (Int64.not_le.mpr ((lg_cmp_gt _ _).mp h3)), Bool.and_false]; rfl)
  · have h := Int64.not_le.mp (fun q => h ((lg_cmp_ge _ _).mpr q))
    exact k27 1 (by unfold btM; rw [if_pos h, decide_eq_true (Int64.not_lt.mp (fun q => h2 ((lg_cmp_lt _ _).mpr q))), decide_eq_true (Int64.not_lt.mp (fun q => h3 ((lg_cmp_gt _ _).mpr q)))]; rfl)
def smM (ax ay bx bY cx cy dx dY : Int64) : Bool :=
  (decide (tuM ax ay bx bY cx cy = 0) && onM ax ay bx bY cx cy) || (decide (tuM ax ay bx bY dx dY = 0) && onM ax ay bx bY dx dY) || (decide (tuM cx cy dx dY ax ay = 0) && onM cx cy dx dY ax ay) || (decide (tuM cx cy dx dY bx bY = 0) && onM cx cy dx dY bx bY) || (decide (tuM cx cy dx dY ax ay * tuM cx cy dx dY bx bY < 0) && decide (tuM ax ay bx bY cx cy * tuM ax ay bx bY dx dY < 0))
def mMt (M : Mem) (r q : Nat) : Bool := smM (M 59 r).toInt64 (M 60 r).toInt64 ((M 59 r).toInt64 + (M 61 r).toInt64) ((M 60 r).toInt64 + (M 62 r).toInt64) (M 59 q).toInt64 (M 60 q).toInt64 ((M 59 q).toInt64 + (M 61 q).toInt64) ((M 60 q).toInt64 + (M 62 q).toInt64)
abbrev mLs (r q : Nat) (ax ay bx bY cx cy dx dY : Int64) : Lv := [some (.ref 11), some (.int (nI r)), some (.int (nI q)), some (.long ax), none, some (.long ay), none, some (.long bx), none, some (.long bY), none, some (.long cx), none, some (.long cy), none, some (.long dx), none, some (.long dY), none, some (.int (tuM ax ay bx bY cx cy)), some (.int (tuM ax ay bx bY dx dY)), some (.int (tuM cx cy dx dY ax ay)), some (.int (tuM cx cy dx dY bx bY))]
theorem c_X8_meets {l : Launch} (hl : l.stackTraces = false) (M : Mem) (o : Ou) {r q : Nat} (hr : r < 8) (hq : q < 8) : Ct l 9 0 174 [.ref 11, .int (nI r), .int (nI q)] M o (rI (cond (mMt M r q) 1 0) M o) nX := by
  have e1 : (nI r).toNatClampNeg = r := nI_clamp (by omega)
  have e2 : vp_in (nI r) 8 := vp_in_nI hr (by decide)
  have e3 : (nI q).toNatClampNeg = q := nI_clamp (by omega)
  have e4 : vp_in (nI q) 8 := vp_in_nI hq (by decide)
  refine ct_plain hl ok174 (by decide) (by decide) rfl rfl (by decide) (Nat.le_of_ble_eq_true rfl) (fun G hG => hG 0 _ _ _ _ _ ?_)
  have kk : ∀ ax ay bx bY cx cy dx dY : Int64, mMt M r q = smM ax ay bx bY cx cy dx dY → (¬ (tuM ax ay bx bY cx cy = 0 ∧ onM ax ay bx bY cx cy = true) → XS l 9 0 e174 (rI (cond (mMt M r q) 1 0) M o) nX G 98 (mLs r q ax ay bx bY cx cy dx dY) [] M o 0) ∧ ((tuM ax ay bx bY cx cy = 0 ∧ onM ax ay bx bY cx cy = true) → some (Value.int 1) = some (.int (cond (mMt M r q) 1 0))) := by
    intro ax ay bx bY cx cy dx dY hm
    have yes : smM ax ay bx bY cx cy dx dY = true → ∃ v, v = some (Value.int 1) ∧ v = some (.int (cond (mMt M r q) 1 0)) := fun h => ⟨_, rfl, by rw [hm, h]; rfl⟩
    have r1 : smM ax ay bx bY cx cy dx dY = true → some (Value.int 1) = some (.int (cond (mMt M r q) 1 0)) := fun h => by rw [hm, h]; rfl
    have r0 : smM ax ay bx bY cx cy dx dY = false → some (Value.int 0) = some (.int (cond (mMt M r q) 1 0)) := fun h => by rw [hm, h]; rfl
    have hsm : smM ax ay bx bY cx cy dx dY = true ↔ (((((tuM ax ay bx bY cx cy = 0 ∧ onM ax ay bx bY cx cy = true) ∨ (tuM ax ay bx bY dx dY = 0 ∧ onM ax ay bx bY dx dY = true)) ∨ (tuM cx cy dx dY ax ay = 0 ∧ onM cx cy dx dY ax ay = true)) ∨ (tuM cx cy dx dY bx bY = 0 ∧ onM cx cy dx dY bx bY = true)) ∨ (tuM cx cy dx dY ax ay * tuM cx cy dx dY bx bY < 0 ∧ tuM ax ay bx bY cx cy * tuM ax ay bx bY dx dY < 0)) := by
      simp only [smM, Bool.or_eq_true, Bool.and_eq_true, decide_eq_true_eq]
    have k132 : ¬ (tuM ax ay bx bY cx cy = 0 ∧ onM ax ay bx bY cx cy = true) → ¬ (tuM ax ay bx bY dx dY = 0 ∧ onM ax ay bx bY dx dY = true) → ¬ (tuM cx cy dx dY ax ay = 0 ∧ onM cx cy dx dY ax ay = true) → ¬ (tuM cx cy dx dY bx bY = 0 ∧ onM cx cy dx dY bx bY = true) → G 132 (mLs r q ax ay bx bY cx cy dx dY) [] M o 0 := by
      intro n1 n2 n3 n4
      refine hG 132 _ _ _ _ _ ?_
      refine ⟨fun h => ?_, fun h => ⟨fun h2 => ?_, fun h2 => ?_⟩⟩
      · refine hG 142 _ _ _ _ _ ?_
        exact ⟨bz0, ⟨r0 (Bool.eq_false_iff.mpr (fun w => (hsm.mp w).elim (fun w => w.elim (fun w => w.elim (fun w => w.elim n1 n2) n3) n4) (fun w => absurd w.1 (Int32.not_lt.mpr h)))), rfl, rfl⟩, Nat.le_refl _⟩
      · refine hG 142 _ _ _ _ _ ?_
        exact ⟨bz0, ⟨r0 (Bool.eq_false_iff.mpr (fun w => (hsm.mp w).elim (fun w => w.elim (fun w => w.elim (fun w => w.elim n1 n2) n3) n4) (fun w => absurd w.2 (Int32.not_lt.mpr h2)))), rfl, rfl⟩, Nat.le_refl _⟩
      · refine hG 143 _ _ _ _ _ ?_
        exact ⟨bz1, ⟨r1 (hsm.mpr (Or.inr ⟨Int32.not_le.mp h, Int32.not_le.mp h2⟩)), rfl, rfl⟩, Nat.le_refl _⟩
    have k120 : ¬ (tuM ax ay bx bY cx cy = 0 ∧ onM ax ay bx bY cx cy = true) → ¬ (tuM ax ay bx bY dx dY = 0 ∧ onM ax ay bx bY dx dY = true) → ¬ (tuM cx cy dx dY ax ay = 0 ∧ onM cx cy dx dY ax ay = true) → XS l 9 0 e174 (rI (cond (mMt M r q) 1 0) M o) nX G 120 (mLs r q ax ay bx bY cx cy dx dY) [] M o 0 := by
      intro n1 n2 n3
      refine ⟨fun h => k132 n1 n2 n3 (fun w => h w.1), fun h => clI (c_X8_isOn hl M o _ _ _ _ _ _) (by decide) (by decide) ⟨fun h2 => k132 n1 n2 n3 (fun w => by rw [cond_z h2] at w; exact absurd w.2 (by decide)), fun h2 => ?_⟩⟩
      exact ⟨bz1, ⟨r1 (hsm.mpr (Or.inl (Or.inr ⟨h, cond_n h2⟩))), rfl, rfl⟩, Nat.le_refl _⟩
    have k110 : ¬ (tuM ax ay bx bY cx cy = 0 ∧ onM ax ay bx bY cx cy = true) → ¬ (tuM ax ay bx bY dx dY = 0 ∧ onM ax ay bx bY dx dY = true) → G 110 (mLs r q ax ay bx bY cx cy dx dY) [] M o 0 := by
      intro n1 n2
      refine hG 110 _ _ _ _ _ ?_
      refine ⟨fun h => hG 120 _ _ _ _ _ (k120 n1 n2 (fun w => h w.1)), fun h => clI (c_X8_isOn hl M o _ _ _ _ _ _) (by decide) (by decide) ⟨fun h2 => ?_, fun h2 => k120 n1 n2 (fun w => by rw [cond_z h2] at w; exact absurd w.2 (by decide))⟩⟩
      refine hG 130 _ _ _ _ _ ?_
      exact ⟨bz1, ⟨r1 (hsm.mpr (Or.inl (Or.inl (Or.inr ⟨h, cond_n h2⟩)))), rfl, rfl⟩, Nat.le_refl _⟩
    have k98 : ¬ (tuM ax ay bx bY cx cy = 0 ∧ onM ax ay bx bY cx cy = true) → XS l 9 0 e174 (rI (cond (mMt M r q) 1 0) M o) nX G 98 (mLs r q ax ay bx bY cx cy dx dY) [] M o 0 := by
      intro n1
      refine ⟨fun h => k110 n1 (fun w => h w.1), fun h => clI (c_X8_isOn hl M o _ _ _ _ _ _) (by decide) (by decide) ⟨fun h2 => k110 n1 (fun w => by rw [cond_z h2] at w; exact absurd w.2 (by decide)), fun h2 => ?_⟩⟩
      exact ⟨bz1, ⟨r1 (hsm.mpr (Or.inl (Or.inl (Or.inl (Or.inr ⟨h, cond_n h2⟩))))), rfl, rfl⟩, Nat.le_refl _⟩
    exact ⟨k98, fun w => r1 (hsm.mpr (Or.inl (Or.inl (Or.inl (Or.inl w)))))⟩
  have hm : mMt M r q = smM (M 59 (nI r).toNatClampNeg).toInt64 (M 60 (nI r).toNatClampNeg).toInt64 ((M 59 (nI r).toNatClampNeg).toInt64 + (M 61 (nI r).toNatClampNeg).toInt64) ((M 60 (nI r).toNatClampNeg).toInt64 + (M 62 (nI r).toNatClampNeg).toInt64) (M 59 (nI q).toNatClampNeg).toInt64 (M 60 (nI q).toNatClampNeg).toInt64 ((M 59 (nI q).toNatClampNeg).toInt64 + (M 61 (nI q).toNatClampNeg).toInt64) ((M 60 (nI q).toNatClampNeg).toInt64 + (M 62 (nI q).toNatClampNeg).toInt64) := by rw [e1, e3]; rfl
  obtain ⟨k98, r1⟩ := kk _ _ _ _ _ _ _ _ hm
  refine ⟨e2, e2, e2, e2, e4, e4, e4, e4, clI (c_X8_turn hl M o _ _ _ _ _ _) (by decide) (by decide) (clI (c_X8_turn hl M o _ _ _ _ _ _) (by decide) (by decide) (clI (c_X8_turn hl M o _ _ _ _ _ _) (by decide) (by decide) (clI (c_X8_turn hl M o _ _ _ _ _ _) (by decide) (by decide) ⟨fun h => hG 98 _ _ _ _ _ (k98 (fun w => h w.1)), fun h => clI (c_X8_isOn hl M o _ _ _ _ _ _) (by decide) (by decide) ⟨fun h2 => ?_, fun h2 => k98 (fun w => by rw [cond_z h2] at w; exact absurd w.2 (by decide))⟩⟩)))⟩
  refine hG 108 _ _ _ _ _ ?_
  exact ⟨bz1, ⟨r1 ⟨h, cond_n h2⟩, rfl, rfl⟩, Nat.le_refl _⟩
