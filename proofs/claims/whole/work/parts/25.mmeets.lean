/-! CONTRACTS: the reference's meeting of stretches. -/
def sgM (v : Int64) : Int32 := if v ≤ 0 then (if 0 ≤ v then 0 else -1) else 1
def tvM (ax ay bx bY cx cy : Int64) : Int64 := (bx - ax) * (cy - ay) - (bY - ay) * (cx - ax)
def tuM (ax ay bx bY cx cy : Int64) : Int32 := sgM (tvM ax ay bx bY cx cy)
theorem c_X8_turn {l : Launch} (hl : l.stackTraces = false) (M : Mem) (o : Ou) (ax ay bx bY cx cy : Int64) : Ct l 8 0 172 [.long ax, .long ay, .long bx, .long bY, .long cx, .long cy] M o (rI (tuM ax ay bx bY cx cy) M o) nX := by
  refine ct_plain hl ok172 (by decide) (by decide) rfl rfl (by decide) (Nat.le_of_ble_eq_true rfl) (fun G hG => hG 0 _ _ _ _ _ ?_)
  refine ⟨fun h => ?_, fun h => ?_⟩
  · refine hG 22 _ _ _ _ _ ?_
    have h : tvM ax ay bx bY cx cy ≤ 0 := (lg_cmp_le _ _).mp h
    refine ⟨fun h2 => ?_, fun h2 => ?_⟩
    · refine hG 28 _ _ _ _ _ ?_
      have h2 : 0 ≤ tvM ax ay bx bY cx cy := (lg_cmp_ge _ _).mp h2
      exact ⟨⟨by unfold tuM sgM; rw [if_pos h, if_pos h2], rfl, rfl⟩, Nat.le_refl _⟩
    · refine hG 29 _ _ _ _ _ ?_
      have h2 : ¬ 0 ≤ tvM ax ay bx bY cx cy := fun q => h2 ((lg_cmp_ge _ _).mpr q)
      exact ⟨⟨by unfold tuM sgM; rw [if_pos h, if_neg h2], rfl, rfl⟩, Nat.le_refl _⟩
  · refine hG 29 _ _ _ _ _ ?_
    have h : ¬ tvM ax ay bx bY cx cy ≤ 0 := fun q => h ((lg_cmp_le _ _).mpr q)
    exact ⟨⟨by unfold tuM sgM; rw [if_neg h], rfl, rfl⟩, Nat.le_refl _⟩
def btM (a b c : Int64) : Bool := if a < b then decide (a ≤ c) && decide (c ≤ b) else decide (b ≤ c) && decide (c ≤ a)
def onM (ax ay bx bY cx cy : Int64) : Bool := btM ax bx cx && btM ay bY cy
/-- the run of a body from an instruction on -/
abbrev XS (l : Launch) (d K : Nat) (em : List En) (post : Option Value → Mem → Ou → Prop) (px : String → Mem → Ou → Prop) (G : GG) (j : Nat) : NX :=
  exec G (fun v M o k => post v M o ∧ k ≤ K) (fun E M o k => px E M o ∧ k ≤ K) (fun E _ M o k => px E M o ∧ k ≤ K) (ClA l d K) (0, fun _ => 0) (em.drop j)
theorem c_X8_isOn {l : Launch} (hl : l.stackTraces = false) (M : Mem) (o : Ou) (ax ay bx bY cx cy : Int64) : Ct l 8 0 173 [.long ax, .long ay, .long bx, .long bY, .long cx, .long cy] M o (rI (cond (onM ax ay bx bY cx cy) 1 0) M o) nX := by
  refine ct_plain hl ok173 (by decide) (by decide) rfl rfl (by decide) (Nat.le_of_ble_eq_true rfl) (fun G hG => hG 0 _ _ _ _ _ ?_)
  have k55x : ∀ v, v = (cond (btM ay bY cy) 1 0 : Int32) → XS l 8 0 e173 (rI (cond (onM ax ay bx bY cx cy) 1 0) M o) nX G 55 [some (.long ax), none, some (.long ay), none, some (.long bx), none, some (.long bY), none, some (.long cx), none, some (.long cy), none, some (.int (cond (btM ax bx cx) 1 0)), none] [.int v] M o 0 := by
    intro v hv
    subst hv
    refine ⟨fun h => ?_, fun h => ⟨fun h2 => ?_, fun h2 => ?_⟩⟩
    · refine hG 62 _ _ _ _ _ ?_
      exact ⟨bz0, ⟨by unfold onM; rw [cond_z h]; rfl, rfl, rfl⟩, Nat.le_refl _⟩
    · refine hG 62 _ _ _ _ _ ?_
      exact ⟨bz0, ⟨by unfold onM; rw [cond_z h2, Bool.and_false]; rfl, rfl, rfl⟩, Nat.le_refl _⟩
    · refine hG 63 _ _ _ _ _ ?_
      exact ⟨bz1, ⟨by unfold onM; rw [cond_n h, cond_n h2]; rfl, rfl, rfl⟩, Nat.le_refl _⟩
  have k55 : ∀ v, v = (cond (btM ay bY cy) 1 0 : Int32) → G 55 [some (.long ax), none, some (.long ay), none, some (.long bx), none, some (.long bY), none, some (.long cx), none, some (.long cy), none, some (.int (cond (btM ax bx cx) 1 0)), none] [.int v] M o 0 := fun v hv => hG 55 _ _ _ _ _ (k55x v hv)
  have k27x : ∀ v, v = (cond (btM ax bx cx) 1 0 : Int32) → XS l 8 0 e173 (rI (cond (onM ax ay bx bY cx cy) 1 0) M o) nX G 27 [some (.long ax), none, some (.long ay), none, some (.long bx), none, some (.long bY), none, some (.long cx), none, some (.long cy), none, none, none] [.int v] M o 0 := by
    intro v hv
    subst hv
    refine ⟨fun h => ?_, fun h => ⟨fun h2 => ?_, fun h2 => ⟨fun h3 => ?_, fun h3 => ?_⟩⟩⟩
    · have h := Int64.not_lt.mpr ((lg_cmp_ge _ _).mp h)
      refine hG 44 _ _ _ _ _ ?_
      refine ⟨fun h2 => ?_, fun h2 => ⟨fun h3 => ?_, fun h3 => ?_⟩⟩
      · refine hG 54 _ _ _ _ _ ?_
        exact k55x 0 (by unfold btM; rw [if_neg h, decide_eq_false (Int64.not_le.mpr ((lg_cmp_lt _ _).mp h2))]; rfl)
      · refine hG 54 _ _ _ _ _ ?_
        exact k55x 0 (by unfold btM; rw [if_neg h, decide_eq_false (Int64.not_le.mpr ((lg_cmp_gt _ _).mp h3)), Bool.and_false]; rfl)
      · exact k55 1 (by unfold btM; rw [if_neg h, decide_eq_true (Int64.not_lt.mp (fun q => h2 ((lg_cmp_lt _ _).mpr q))), decide_eq_true (Int64.not_lt.mp (fun q => h3 ((lg_cmp_gt _ _).mpr q)))]; rfl)
    · have h := Int64.not_le.mp (fun q => h ((lg_cmp_ge _ _).mpr q))
      refine hG 42 _ _ _ _ _ ?_
      exact k55 0 (by unfold btM; rw [if_pos h, decide_eq_false (Int64.not_le.mpr ((lg_cmp_lt _ _).mp h2))]; rfl)
    · have h := Int64.not_le.mp (fun q => h ((lg_cmp_ge _ _).mpr q))
      refine hG 42 _ _ _ _ _ ?_
      exact k55 0 (by unfold btM; rw [if_pos h, decide_eq_false (Int64.not_le.mpr ((lg_cmp_gt _ _).mp h3)), Bool.and_false]; rfl)
    · have h := Int64.not_le.mp (fun q => h ((lg_cmp_ge _ _).mpr q))
      exact k55 1 (by unfold btM; rw [if_pos h, decide_eq_true (Int64.not_lt.mp (fun q => h2 ((lg_cmp_lt _ _).mpr q))), decide_eq_true (Int64.not_lt.mp (fun q => h3 ((lg_cmp_gt _ _).mpr q)))]; rfl)
  have k27 : ∀ v, v = (cond (btM ax bx cx) 1 0 : Int32) → G 27 [some (.long ax), none, some (.long ay), none, some (.long bx), none, some (.long bY), none, some (.long cx), none, some (.long cy), none, none, none] [.int v] M o 0 := fun v hv => hG 27 _ _ _ _ _ (k27x v hv)
  refine ⟨fun h => ?_, fun h => ⟨fun h2 => ?_, fun h2 => ⟨fun h3 => ?_, fun h3 => ?_⟩⟩⟩
  · have h := Int64.not_lt.mpr ((lg_cmp_ge _ _).mp h)
    refine hG 16 _ _ _ _ _ ?_
    refine ⟨fun h2 => ?_, fun h2 => ⟨fun h3 => ?_, fun h3 => ?_⟩⟩
    · refine hG 26 _ _ _ _ _ ?_
      exact k27x 0 (by unfold btM; rw [if_neg h, decide_eq_false (Int64.not_le.mpr ((lg_cmp_lt _ _).mp h2))]; rfl)
    · refine hG 26 _ _ _ _ _ ?_
      exact k27x 0 (by unfold btM; rw [if_neg h, decide_eq_false (Int64.not_le.mpr ((lg_cmp_gt _ _).mp h3)), Bool.and_false]; rfl)
    · exact k27 1 (by unfold btM; rw [if_neg h, decide_eq_true (Int64.not_lt.mp (fun q => h2 ((lg_cmp_lt _ _).mpr q))), decide_eq_true (Int64.not_lt.mp (fun q => h3 ((lg_cmp_gt _ _).mpr q)))]; rfl)
  · have h := Int64.not_le.mp (fun q => h ((lg_cmp_ge _ _).mpr q))
    refine hG 14 _ _ _ _ _ ?_
    exact k27 0 (by unfold btM; rw [if_pos h, decide_eq_false (Int64.not_le.mpr ((lg_cmp_lt _ _).mp h2))]; rfl)
  · have h := Int64.not_le.mp (fun q => h ((lg_cmp_ge _ _).mpr q))
    refine hG 14 _ _ _ _ _ ?_
    exact k27 0 (by unfold btM; rw [if_pos h, decide_eq_false (Int64.not_le.mpr ((lg_cmp_gt _ _).mp h3)), Bool.and_false]; rfl)
  · have h := Int64.not_le.mp (fun q => h ((lg_cmp_ge _ _).mpr q))
    exact k27 1 (by unfold btM; rw [if_pos h, decide_eq_true (Int64.not_lt.mp (fun q => h2 ((lg_cmp_lt _ _).mpr q))), decide_eq_true (Int64.not_lt.mp (fun q => h3 ((lg_cmp_gt _ _).mpr q)))]; rfl)
