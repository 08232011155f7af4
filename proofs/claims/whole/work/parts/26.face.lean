/-! CONTRACTS: the kind's own small helpers, and the form of a face. -/
/-- a face ends with code k: 0 is a value, 1 and 2 are its two throws -/
abbrev rF (k : Nat) (r : Int32) (R : Mem → Prop) (o1 : Ou) : Option Value → Mem → Ou → Prop := fun v M' o' => k = 0 ∧ v = some (.int r) ∧ R M' ∧ o' = o1
abbrev vF (k : Nat) (R : Mem → Prop) (o1 : Ou) : Option Value → Mem → Ou → Prop := fun v M' o' => k = 0 ∧ v = none ∧ R M' ∧ o' = o1
abbrev xF (E1 E2 : String) (k : Nat) (R : Mem → Prop) (o1 : Ou) : String → Mem → Ou → Prop := fun E M' o' => (k = 1 ∧ E = E1 ∨ k = 2 ∧ E = E2) ∧ R M' ∧ o' = o1
/-- the memory is changed only where a value is given -/
def eF (k : Nat) (M1 M : Mem) : Mem → Prop := fun M' => M' = if k = 0 then M1 else M
theorem eF0 {k : Nat} {M1 M : Mem} (h : k = 0) : eF k M1 M M1 := by unfold eF; rw [if_pos h]
theorem eF1 {k : Nat} {M1 M : Mem} (h : k = 1) : eF k M1 M M := by unfold eF; rw [if_neg (by omega)]
theorem eF2 {k : Nat} {M1 M : Mem} (h : k = 2) : eF k M1 M M := by unfold eF; rw [if_neg (by omega)]
def wiF (v a b : Int32) : Bool := decide (a ≤ v) && decide (v ≤ b)
theorem c_X7_within {l : Launch} (hl : l.stackTraces = false) (M : Mem) (o : Ou) (v a b : Int32) : Ct l 8 0 109 [.int v, .int a, .int b] M o (rI (cond (wiF v a b) 1 0) M o) nX := by
  refine ct_plain hl ok109 (by decide) (by decide) rfl rfl (by decide) (Nat.le_of_ble_eq_true rfl) (fun G hG => hG 0 _ _ _ _ _ ?_)
  refine ⟨fun h => ?_, fun h => ⟨fun h2 => ?_, fun h2 => ?_⟩⟩
  · refine hG 8 _ _ _ _ _ ?_
    exact ⟨bz0, ⟨by unfold wiF; rw [decide_eq_false (Int32.not_le.mpr h)]; rfl, rfl, rfl⟩, Nat.le_refl _⟩
  · refine hG 8 _ _ _ _ _ ?_
    exact ⟨bz0, ⟨by unfold wiF; rw [decide_eq_false (Int32.not_le.mpr h2), Bool.and_false]; rfl, rfl, rfl⟩, Nat.le_refl _⟩
  · refine hG 9 _ _ _ _ _ ?_
    exact ⟨bz1, ⟨by unfold wiF; rw [decide_eq_true (Int32.not_lt.mp h), decide_eq_true (Int32.not_lt.mp h2)]; rfl, rfl, rfl⟩, Nat.le_refl _⟩
abbrev qV (P : Prop) (M1 : Mem) (o1 : Ou) : Option Value → Mem → Ou → Prop := fun v M' o' => P ∧ rV M1 o1 v M' o'
abbrev qX (P : Prop) (E : String) (M1 : Mem) (o1 : Ou) : String → Mem → Ou → Prop := fun E' M' o' => ¬ P ∧ E' = E ∧ M' = M1 ∧ o' = o1
theorem c_X7_requireHandicap {l : Launch} (hl : l.stackTraces = false) (M : Mem) (o : Ou) (v : Int32) : Ct l 9 1 110 [.int v] M o (qV (wiF v (-2) 10 = true) M o) (qX (wiF v (-2) 10 = true) IAE M o) := by
  refine ct_plain hl ok110 (by decide) (by decide) rfl rfl (by decide) (Nat.le_of_ble_eq_true rfl) (fun G hG => hG 0 _ _ _ _ _ ?_)
  refine clI (c_X7_within hl M o _ _ _) (by decide) (by decide) ⟨fun h => ?_, fun h => ?_⟩
  · refine hG 10 _ _ _ _ _ ?_
    exact ⟨⟨cond_n h, rfl, rfl, rfl⟩, by decide⟩
  · exact ⟨⟨by rw [cond_z h]; decide, rfl, rfl, rfl⟩, by decide⟩
theorem whF_z {v : Int32} (h : v = 0) : whF v = true := by unfold whF; rw [decide_eq_true h]; rfl
theorem whF_o {v : Int32} (h : v = 1) : whF v = true := by unfold whF; rw [decide_eq_true h, Bool.or_true]
theorem whF_n {v : Int32} (h : ¬ v = 0) (h2 : ¬ v = 1) : whF v = false := by unfold whF; rw [decide_eq_false h, decide_eq_false h2]; rfl
theorem whF_e {v : Int32} (h : whF v = true) : v = nI 0 ∨ v = nI 1 := by
  unfold whF at h
  simp only [Bool.or_eq_true, decide_eq_true_eq] at h
  exact h
theorem c_X7_requireZeroOrOne {l : Launch} (hl : l.stackTraces = false) (M : Mem) (o : Ou) (v : Int32) : Ct l 9 1 111 [.int v] M o (qV (whF v = true) M o) (qX (whF v = true) IAE M o) := by
  refine ct_plain hl ok111 (by decide) (by decide) rfl rfl (by decide) (Nat.le_of_ble_eq_true rfl) (fun G hG => hG 0 _ _ _ _ _ ?_)
  refine ⟨fun h => ?_, fun h => ⟨fun h2 => ?_, fun h2 => ?_⟩⟩
  · refine hG 10 _ _ _ _ _ ?_
    exact ⟨⟨whF_z h, rfl, rfl, rfl⟩, by decide⟩
  · refine hG 10 _ _ _ _ _ ?_
    exact ⟨⟨whF_o h2, rfl, rfl, rfl⟩, by decide⟩
  · exact ⟨⟨by rw [whF_n h h2]; decide, rfl, rfl, rfl⟩, by decide⟩
theorem wiF_n {v : Int32} {n : Nat} (hn : n < 2 ^ 31) : wiF v 0 (nI n - 1) = true ↔ vp_in v n := by
  unfold wiF
  simp only [Bool.and_eq_true, decide_eq_true_eq]
  cases n with
  | zero =>
    constructor
    · rintro ⟨h1, h2⟩
      have : ¬ (0 : Int32) ≤ nI 0 - 1 := by decide
      exact absurd (Int32.le_trans h1 h2) this
    · intro h
      obtain ⟨j, hj, -⟩ := vp_in_of h hn
      exact absurd hj (by omega)
  | succ n =>
    rw [nI_pred]
    constructor
    · rintro ⟨h1, h2⟩
      obtain ⟨j, hj, rfl⟩ := nI_of (Int32.not_lt.mpr h1)
      exact vp_in_nI (by have := (nI_leI hj (by omega)).mp h2; omega) hn
    · intro h
      obtain ⟨j, hj, rfl⟩ := vp_in_of h hn
      exact ⟨nI_pos' (by omega), nI_le (by omega) (by omega)⟩
theorem c_X7_requirePlayer {l : Launch} (hl : l.stackTraces = false) (M : Mem) (o : Ou) {n : Nat} (v : Int32) (hf : M 1 3 = nI n) (hn : n < 2 ^ 31) : Ct l 9 1 113 [.ref 0, .int v] M o (qV (vp_in v n) M o) (qX (vp_in v n) IOB M o) := by
  refine ct_plain hl ok113 (by decide) (by decide) rfl rfl (by decide) (Nat.le_of_ble_eq_true rfl) (fun G hG => hG 0 _ _ _ _ _ ?_)
  refine clI (c_X3_players hl M o) (by decide) (by decide) (clI (c_X7_within hl M o _ _ _) (by decide) (by decide) ⟨fun h => ?_, fun h => ?_⟩)
  · refine hG 14 _ _ _ _ _ ?_
    rw [hf] at h
    exact ⟨⟨(wiF_n hn).mp (cond_n h), rfl, rfl, rfl⟩, by decide⟩
  · rw [hf] at h
    exact ⟨⟨fun q => by rw [(wiF_n hn).mpr q] at h; exact absurd h (by decide), rfl, rfl, rfl⟩, by decide⟩
theorem c_X7_requireTeam {l : Launch} (hl : l.stackTraces = false) (M : Mem) (o : Ou) {n : Nat} (v : Int32) (hf : M 1 4 = nI n) (hn : n < 2 ^ 31) : Ct l 9 1 114 [.ref 0, .int v] M o (qV (vp_in v n) M o) (qX (vp_in v n) IOB M o) := by
  refine ct_plain hl ok114 (by decide) (by decide) rfl rfl (by decide) (Nat.le_of_ble_eq_true rfl) (fun G hG => hG 0 _ _ _ _ _ ?_)
  refine clI (c_X3_teams hl M o) (by decide) (by decide) (clI (c_X7_within hl M o _ _ _) (by decide) (by decide) ⟨fun h => ?_, fun h => ?_⟩)
  · refine hG 14 _ _ _ _ _ ?_
    rw [hf] at h
    exact ⟨⟨(wiF_n hn).mp (cond_n h), rfl, rfl, rfl⟩, by decide⟩
  · rw [hf] at h
    exact ⟨⟨fun q => by rw [(wiF_n hn).mpr q] at h; exact absurd h (by decide), rfl, rfl, rfl⟩, by decide⟩
theorem c_X7_requirePony {l : Launch} (hl : l.stackTraces = false) (M : Mem) (o : Ou) {n : Nat} (v : Int32) (hf : M 8 4 = nI n) (hn : n < 2 ^ 31) : Ct l 9 1 115 [.ref 0, .int v] M o (qV (vp_in v n) M o) (qX (vp_in v n) IOB M o) := by
  refine ct_plain hl ok115 (by decide) (by decide) rfl rfl (by decide) (Nat.le_of_ble_eq_true rfl) (fun G hG => hG 0 _ _ _ _ _ ?_)
  refine clI (c_X5_ponies hl M o) (by decide) (by decide) (clI (c_X7_within hl M o _ _ _) (by decide) (by decide) ⟨fun h => ?_, fun h => ?_⟩)
  · refine hG 14 _ _ _ _ _ ?_
    rw [hf] at h
    exact ⟨⟨(wiF_n hn).mp (cond_n h), rfl, rfl, rfl⟩, by decide⟩
  · rw [hf] at h
    exact ⟨⟨fun q => by rw [(wiF_n hn).mpr q] at h; exact absurd h (by decide), rfl, rfl, rfl⟩, by decide⟩
/-! the roster's face -/
def kPl (v : Int32) (n : Nat) : Nat := if wiF v (-2) 10 = true then (if n < 32 then 0 else 2) else 1
theorem c_X7_player {l : Launch} (hl : l.stackTraces = false) (M : Mem) (o : Ou) {n : Nat} (v : Int32) (hf : M 1 3 = nI n) (hn : n ≤ 32) : Ct l 20 8 85 [.ref 0, .int v] M o (rF (kPl v n) (nI n) (eF (kPl v n) (mset (mset M 12 n v) 1 3 (nI (n + 1))) M) o) (xF IAE ISE (kPl v n) (eF (kPl v n) (mset (mset M 12 n v) 1 3 (nI (n + 1))) M) o) := by
  refine ct_plain hl ok85 (by decide) (by decide) rfl rfl (by decide) (Nat.le_of_ble_eq_true rfl) (fun G hG => hG 0 _ _ _ _ _ ?_)
  refine clR (c_X7_requireHandicap hl M o _) (by decide) (by decide) (fun hw => ?_) (fun hw => ?_)
  · refine clI (c_X3_playersAreFull hl M o) (by decide) (by decide) ⟨fun h => ?_, fun h => ?_⟩
    · refine hG 11 _ _ _ _ _ ?_
      have hn : n < 32 := by
        rcases Nat.lt_or_ge n 32 with q | q
        · exact q
        · rw [hf, if_neg (show ¬ nI n < 32 from nI_nlt (a := n) (b := 32) q (by omega))] at h
          exact absurd h (by decide)
      have hk : kPl v n = 0 := by unfold kPl; rw [if_pos hw, if_pos hn]
      have e : M 1 3 + 1 = nI (n + 1) := by rw [hf, nI_1]
      have hc := c_X3_addPlayer hl M o v (by rw [hf]; exact vp_in_nI hn (by decide))
      rw [e, hf, nI_pred, nI_clamp (by omega)] at hc
      exact clI hc (by decide) (by decide) ⟨⟨hk, rfl, eF0 hk, rfl⟩, by decide⟩
    · have hn : ¬ n < 32 := fun q => h (by rw [hf, if_pos (show nI n < 32 from nI_lt (a := n) (b := 32) q (by omega))])
      have hk : kPl v n = 2 := by unfold kPl; rw [if_pos hw, if_neg hn]
      exact ⟨⟨Or.inr ⟨hk, rfl⟩, eF2 hk, rfl⟩, by decide⟩
  · have hk : kPl v n = 1 := by unfold kPl; rw [if_neg hw]
    exact ⟨⟨Or.inl ⟨hk, rfl⟩, eF1 hk, rfl⟩, by decide⟩
