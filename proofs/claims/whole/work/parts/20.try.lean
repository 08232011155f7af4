theorem c_roster_players (l : Launch) (hl : l.stackTraces = false) (M : Mem) (o : Ou) : Ct l 8 0 33 [.ref 1] M o (fun v M' o' => v = some (.int (M 1 3)) ∧ M' = M ∧ o' = o) (fun _ _ _ => False) := by
  refine ct_plain hl ok33 (by decide) (by decide) rfl rfl (by decide) (by decide) (fun G hG => ?_)
  refine hG 0 _ _ _ _ _ ?_
  exact ⟨⟨rfl, rfl, rfl⟩, Nat.le_refl _⟩
theorem c_roster_addPlayer (l : Launch) (hl : l.stackTraces = false) (M : Mem) (o : Ou) (h : Int32) (hin : vp_in (M 1 3) 32) : Ct l 8 0 37 [.ref 1, .int h] M o (fun v M' o' => v = some (.int (M 1 3 + 1 - 1)) ∧ M' = mset (mset M 12 (M 1 3).toNatClampNeg h) 1 3 (M 1 3 + 1) ∧ o' = o) (fun _ _ _ => False) := by
  refine ct_plain hl ok37 (by decide) (by decide) rfl rfl (by decide) (by decide) (fun G hG => ?_)
  refine hG 0 _ _ _ _ _ ?_
  refine ⟨hin, ?_⟩
  trace_state
  exact ⟨⟨rfl, rfl, rfl⟩, Nat.le_refl _⟩
