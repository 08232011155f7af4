/-! CONTRACTS: the law's wrappers (written by gen/wrap.py). -/
theorem w_player {l : Launch} (hl : l.stackTraces = false) (M : Mem) (o : Ou) {k d : Nat} {r : Int32} {R : Mem → Prop} (a0 : Int32) (hd : d < 150) (h : Ct l d 8 85 [.ref 0, .int a0] M o (rF k r R o) (xF IAE ISE k R o)) : Ct l 150 8 179 [.ref 0, .int a0, .ref 63] M o (fun v M' o' => v = some (.int (nI k)) ∧ R M' ∧ o' = (if k = 0 then vp_updL o 0 (r.toInt64) else o)) nX := by
  refine ct_catch ok179 (by decide) (by decide) rfl rfl rfl (by decide) (by decide) (Nat.le_of_ble_eq_true rfl) (fun G hG => hG 0 _ _ _ _ _ ?_)
  refine clP h hd (by decide) (fun v M' o' q => ?_) (fun E M' o' q => ?_)
  · obtain ⟨hk, rfl, hR, rfl⟩ := q
    refine ⟨vp_in_nI (n := 0) (N := 1) (by decide) (by decide), ?_⟩
    refine hG 14 _ _ _ _ _ ?_
    exact ⟨⟨by rw [hk]; rfl, hR, by rw [if_pos hk]; rfl⟩, Nat.le_refl _⟩
  · obtain ⟨q1, hR, rfl⟩ := q
    rcases q1 with ⟨hk, rfl⟩ | ⟨hk, rfl⟩
    · exact ⟨8, 3, _, _, _, rfl, by decide, rfl, rfl, Nat.le_of_ble_eq_true rfl, hG 9 _ _ _ _ _ ⟨⟨by rw [hk]; rfl, hR, by rw [if_neg (by rw [hk]; decide)]⟩, Nat.le_refl _⟩⟩
    · exact ⟨11, 3, _, _, _, rfl, by decide, rfl, rfl, Nat.le_of_ble_eq_true rfl, hG 12 _ _ _ _ _ ⟨⟨by rw [hk]; rfl, hR, by rw [if_neg (by rw [hk]; decide)]⟩, Nat.le_refl _⟩⟩
theorem w_rate {l : Launch} (hl : l.stackTraces = false) (M : Mem) (o : Ou) {k d : Nat} {r : Int32} {R : Mem → Prop} (a0 a1 : Int32) (hd : d < 150) (h : Ct l d 8 86 [.ref 0, .int a0, .int a1] M o (rF k r R o) (xF IOB IAE k R o)) : Ct l 150 8 180 [.ref 0, .int a0, .int a1, .ref 63] M o (fun v M' o' => v = some (.int (nI k)) ∧ R M' ∧ o' = (if k = 0 then vp_updL o 0 (r.toInt64) else o)) nX := by
  refine ct_catch ok180 (by decide) (by decide) rfl rfl rfl (by decide) (by decide) (Nat.le_of_ble_eq_true rfl) (fun G hG => hG 0 _ _ _ _ _ ?_)
  refine clP h hd (by decide) (fun v M' o' q => ?_) (fun E M' o' q => ?_)
  · obtain ⟨hk, rfl, hR, rfl⟩ := q
    refine ⟨vp_in_nI (n := 0) (N := 1) (by decide) (by decide), ?_⟩
    refine hG 15 _ _ _ _ _ ?_
    exact ⟨⟨by rw [hk]; rfl, hR, by rw [if_pos hk]; rfl⟩, Nat.le_refl _⟩
  · obtain ⟨q1, hR, rfl⟩ := q
    rcases q1 with ⟨hk, rfl⟩ | ⟨hk, rfl⟩
    · exact ⟨9, 4, _, _, _, rfl, by decide, rfl, rfl, Nat.le_of_ble_eq_true rfl, hG 10 _ _ _ _ _ ⟨⟨by rw [hk]; rfl, hR, by rw [if_neg (by rw [hk]; decide)]⟩, Nat.le_refl _⟩⟩
    · exact ⟨12, 4, _, _, _, rfl, by decide, rfl, rfl, Nat.le_of_ble_eq_true rfl, hG 13 _ _ _ _ _ ⟨⟨by rw [hk]; rfl, hR, by rw [if_neg (by rw [hk]; decide)]⟩, Nat.le_refl _⟩⟩
theorem w_team {l : Launch} (hl : l.stackTraces = false) (M : Mem) (o : Ou) {k d : Nat} {r : Int32} {R : Mem → Prop} (a0 a1 a2 a3 : Int32) (hd : d < 150) (h : Ct l d 8 87 [.ref 0, .int a0, .int a1, .int a2, .int a3] M o (rF k r R o) (xF IOB ISE k R o)) : Ct l 150 8 181 [.ref 0, .int a0, .int a1, .int a2, .int a3, .ref 63] M o (fun v M' o' => v = some (.int (nI k)) ∧ R M' ∧ o' = (if k = 0 then vp_updL o 0 (r.toInt64) else o)) nX := by
  refine ct_catch ok181 (by decide) (by decide) rfl rfl rfl (by decide) (by decide) (Nat.le_of_ble_eq_true rfl) (fun G hG => hG 0 _ _ _ _ _ ?_)
  refine clP h hd (by decide) (fun v M' o' q => ?_) (fun E M' o' q => ?_)
  · obtain ⟨hk, rfl, hR, rfl⟩ := q
    refine ⟨vp_in_nI (n := 0) (N := 1) (by decide) (by decide), ?_⟩
    refine hG 17 _ _ _ _ _ ?_
    exact ⟨⟨by rw [hk]; rfl, hR, by rw [if_pos hk]; rfl⟩, Nat.le_refl _⟩
  · obtain ⟨q1, hR, rfl⟩ := q
    rcases q1 with ⟨hk, rfl⟩ | ⟨hk, rfl⟩
    · exact ⟨11, 6, _, _, _, rfl, by decide, rfl, rfl, Nat.le_of_ble_eq_true rfl, hG 12 _ _ _ _ _ ⟨⟨by rw [hk]; rfl, hR, by rw [if_neg (by rw [hk]; decide)]⟩, Nat.le_refl _⟩⟩
    · exact ⟨14, 6, _, _, _, rfl, by decide, rfl, rfl, Nat.le_of_ble_eq_true rfl, hG 15 _ _ _ _ _ ⟨⟨by rw [hk]; rfl, hR, by rw [if_neg (by rw [hk]; decide)]⟩, Nat.le_refl _⟩⟩
theorem w_strength {l : Launch} (hl : l.stackTraces = false) (M : Mem) (o : Ou) {k d : Nat} {r : Int32} {R : Mem → Prop} (a0 : Int32) (hd : d < 150) (hk1 : k ≠ 2) (h : Ct l d 8 88 [.ref 0, .int a0] M o (rF k r R o) (xF IOB IAE k R o)) : Ct l 150 8 182 [.ref 0, .int a0, .ref 63] M o (fun v M' o' => v = some (.int (nI k)) ∧ R M' ∧ o' = (if k = 0 then vp_updL o 0 (r.toInt64) else o)) nX := by
  refine ct_catch ok182 (by decide) (by decide) rfl rfl rfl (by decide) (by decide) (Nat.le_of_ble_eq_true rfl) (fun G hG => hG 0 _ _ _ _ _ ?_)
  refine clP h hd (by decide) (fun v M' o' q => ?_) (fun E M' o' q => ?_)
  · obtain ⟨hk, rfl, hR, rfl⟩ := q
    refine ⟨vp_in_nI (n := 0) (N := 1) (by decide) (by decide), ?_⟩
    refine hG 11 _ _ _ _ _ ?_
    exact ⟨⟨by rw [hk]; rfl, hR, by rw [if_pos hk]; rfl⟩, Nat.le_refl _⟩
  · obtain ⟨q1, hR, rfl⟩ := q
    rcases q1 with ⟨hk, rfl⟩ | ⟨hk, rfl⟩
    · exact ⟨8, 3, _, _, _, rfl, by decide, rfl, rfl, Nat.le_of_ble_eq_true rfl, hG 9 _ _ _ _ _ ⟨⟨by rw [hk]; rfl, hR, by rw [if_neg (by rw [hk]; decide)]⟩, Nat.le_refl _⟩⟩
    · exact absurd hk hk1
theorem w_cup {l : Launch} (hl : l.stackTraces = false) (M : Mem) (o : Ou) {k d : Nat} {R : Mem → Prop} (a0 a1 : Int32) (hd : d < 150) (hk1 : k ≠ 2) (h : Ct l d 8 89 [.ref 0, .int a0, .int a1] M o (vF k R o) (xF IAE IAE k R o)) : Ct l 150 8 183 [.ref 0, .int a0, .int a1] M o (fun v M' o' => v = some (.int (nI k)) ∧ R M' ∧ o' = o) nX := by
  refine ct_catch ok183 (by decide) (by decide) rfl rfl rfl (by decide) (by decide) (Nat.le_of_ble_eq_true rfl) (fun G hG => hG 0 _ _ _ _ _ ?_)
  refine clP h hd (by decide) (fun v M' o' q => ?_) (fun E M' o' q => ?_)
  · obtain ⟨hk, rfl, hR, rfl⟩ := q
    refine hG 8 _ _ _ _ _ ?_
    exact ⟨⟨by rw [hk]; rfl, hR, rfl⟩, Nat.le_refl _⟩
  · obtain ⟨q1, hR, rfl⟩ := q
    rcases q1 with ⟨hk, rfl⟩ | ⟨hk, rfl⟩
    · exact ⟨5, 3, _, _, _, rfl, by decide, rfl, rfl, Nat.le_of_ble_eq_true rfl, hG 6 _ _ _ _ _ ⟨⟨by rw [hk]; rfl, hR, rfl⟩, Nat.le_refl _⟩⟩
    · exact absurd hk hk1
theorem w_enter {l : Launch} (hl : l.stackTraces = false) (M : Mem) (o : Ou) {k d : Nat} {r : Int32} {R : Mem → Prop} (a0 : Int32) (hd : d < 150) (h : Ct l d 8 90 [.ref 0, .int a0] M o (rF k r R o) (xF IOB ISE k R o)) : Ct l 150 8 184 [.ref 0, .int a0, .ref 63] M o (fun v M' o' => v = some (.int (nI k)) ∧ R M' ∧ o' = (if k = 0 then vp_updL o 0 (r.toInt64) else o)) nX := by
  refine ct_catch ok184 (by decide) (by decide) rfl rfl rfl (by decide) (by decide) (Nat.le_of_ble_eq_true rfl) (fun G hG => hG 0 _ _ _ _ _ ?_)
  refine clP h hd (by decide) (fun v M' o' q => ?_) (fun E M' o' q => ?_)
  · obtain ⟨hk, rfl, hR, rfl⟩ := q
    refine ⟨vp_in_nI (n := 0) (N := 1) (by decide) (by decide), ?_⟩
    refine hG 14 _ _ _ _ _ ?_
    exact ⟨⟨by rw [hk]; rfl, hR, by rw [if_pos hk]; rfl⟩, Nat.le_refl _⟩
  · obtain ⟨q1, hR, rfl⟩ := q
    rcases q1 with ⟨hk, rfl⟩ | ⟨hk, rfl⟩
    · exact ⟨8, 3, _, _, _, rfl, by decide, rfl, rfl, Nat.le_of_ble_eq_true rfl, hG 9 _ _ _ _ _ ⟨⟨by rw [hk]; rfl, hR, by rw [if_neg (by rw [hk]; decide)]⟩, Nat.le_refl _⟩⟩
    · exact ⟨11, 3, _, _, _, rfl, by decide, rfl, rfl, Nat.le_of_ble_eq_true rfl, hG 12 _ _ _ _ _ ⟨⟨by rw [hk]; rfl, hR, by rw [if_neg (by rw [hk]; decide)]⟩, Nat.le_refl _⟩⟩
theorem w_draw {l : Launch} (hl : l.stackTraces = false) (M : Mem) (o : Ou) {k d : Nat} {r : Int32} {R : Mem → Prop} (hd : d < 150) (hk1 : k ≠ 2) (h : Ct l d 8 92 [.ref 0] M o (rF k r R o) (xF ISE IAE k R o)) : Ct l 150 8 185 [.ref 0, .ref 63] M o (fun v M' o' => v = some (.int (nI k)) ∧ R M' ∧ o' = (if k = 0 then vp_updL o 0 (r.toInt64) else o)) nX := by
  refine ct_catch ok185 (by decide) (by decide) rfl rfl rfl (by decide) (by decide) (Nat.le_of_ble_eq_true rfl) (fun G hG => hG 0 _ _ _ _ _ ?_)
  refine clP h hd (by decide) (fun v M' o' q => ?_) (fun E M' o' q => ?_)
  · obtain ⟨hk, rfl, hR, rfl⟩ := q
    refine ⟨vp_in_nI (n := 0) (N := 1) (by decide) (by decide), ?_⟩
    refine hG 10 _ _ _ _ _ ?_
    exact ⟨⟨by rw [hk]; rfl, hR, by rw [if_pos hk]; rfl⟩, Nat.le_refl _⟩
  · obtain ⟨q1, hR, rfl⟩ := q
    rcases q1 with ⟨hk, rfl⟩ | ⟨hk, rfl⟩
    · exact ⟨7, 2, _, _, _, rfl, by decide, rfl, rfl, Nat.le_of_ble_eq_true rfl, hG 8 _ _ _ _ _ ⟨⟨by rw [hk]; rfl, hR, by rw [if_neg (by rw [hk]; decide)]⟩, Nat.le_refl _⟩⟩
    · exact absurd hk hk1
theorem w_next {l : Launch} (hl : l.stackTraces = false) (M : Mem) (o : Ou) {k d : Nat} {r : Int32} {R : Mem → Prop} (a0 : Int32) (hd : d < 150) (hk1 : k ≠ 2) (h : Ct l d 8 93 [.ref 0, .int a0] M o (rF k r R o) (xF IAE IAE k R o)) : Ct l 150 8 186 [.ref 0, .int a0, .ref 63] M o (fun v M' o' => v = some (.int (nI k)) ∧ R M' ∧ o' = (if k = 0 then vp_updL o 0 (r.toInt64) else o)) nX := by
  refine ct_catch ok186 (by decide) (by decide) rfl rfl rfl (by decide) (by decide) (Nat.le_of_ble_eq_true rfl) (fun G hG => hG 0 _ _ _ _ _ ?_)
  refine clP h hd (by decide) (fun v M' o' q => ?_) (fun E M' o' q => ?_)
  · obtain ⟨hk, rfl, hR, rfl⟩ := q
    refine ⟨vp_in_nI (n := 0) (N := 1) (by decide) (by decide), ?_⟩
    refine hG 11 _ _ _ _ _ ?_
    exact ⟨⟨by rw [hk]; rfl, hR, by rw [if_pos hk]; rfl⟩, Nat.le_refl _⟩
  · obtain ⟨q1, hR, rfl⟩ := q
    rcases q1 with ⟨hk, rfl⟩ | ⟨hk, rfl⟩
    · exact ⟨8, 3, _, _, _, rfl, by decide, rfl, rfl, Nat.le_of_ble_eq_true rfl, hG 9 _ _ _ _ _ ⟨⟨by rw [hk]; rfl, hR, by rw [if_neg (by rw [hk]; decide)]⟩, Nat.le_refl _⟩⟩
    · exact absurd hk hk1
theorem w_given {l : Launch} (hl : l.stackTraces = false) (M : Mem) (o : Ou) {k d : Nat} {r : Int32} {R : Mem → Prop} (a0 : Int32) (hd : d < 150) (hk1 : k ≠ 2) (h : Ct l d 8 94 [.ref 0, .int a0] M o (rF k r R o) (xF IAE IAE k R o)) : Ct l 150 8 187 [.ref 0, .int a0, .ref 63] M o (fun v M' o' => v = some (.int (nI k)) ∧ R M' ∧ o' = (if k = 0 then vp_updL o 0 (r.toInt64) else o)) nX := by
  refine ct_catch ok187 (by decide) (by decide) rfl rfl rfl (by decide) (by decide) (Nat.le_of_ble_eq_true rfl) (fun G hG => hG 0 _ _ _ _ _ ?_)
  refine clP h hd (by decide) (fun v M' o' q => ?_) (fun E M' o' q => ?_)
  · obtain ⟨hk, rfl, hR, rfl⟩ := q
    refine ⟨vp_in_nI (n := 0) (N := 1) (by decide) (by decide), ?_⟩
    refine hG 11 _ _ _ _ _ ?_
    exact ⟨⟨by rw [hk]; rfl, hR, by rw [if_pos hk]; rfl⟩, Nat.le_refl _⟩
  · obtain ⟨q1, hR, rfl⟩ := q
    rcases q1 with ⟨hk, rfl⟩ | ⟨hk, rfl⟩
    · exact ⟨8, 3, _, _, _, rfl, by decide, rfl, rfl, Nat.le_of_ble_eq_true rfl, hG 9 _ _ _ _ _ ⟨⟨by rw [hk]; rfl, hR, by rw [if_neg (by rw [hk]; decide)]⟩, Nat.le_refl _⟩⟩
    · exact absurd hk hk1
theorem w_play {l : Launch} (hl : l.stackTraces = false) (M : Mem) (o : Ou) {k d : Nat} {r : Int32} {R : Mem → Prop} (a0 a1 : Int32) (hd : d < 150) (h : Ct l d 8 95 [.ref 0, .int a0, .int a1] M o (rF k r R o) (xF IAE ISE k R o)) : Ct l 150 8 188 [.ref 0, .int a0, .int a1, .ref 63] M o (fun v M' o' => v = some (.int (nI k)) ∧ R M' ∧ o' = (if k = 0 then vp_updL o 0 (r.toInt64) else o)) nX := by
  refine ct_catch ok188 (by decide) (by decide) rfl rfl rfl (by decide) (by decide) (Nat.le_of_ble_eq_true rfl) (fun G hG => hG 0 _ _ _ _ _ ?_)
  refine clP h hd (by decide) (fun v M' o' q => ?_) (fun E M' o' q => ?_)
  · obtain ⟨hk, rfl, hR, rfl⟩ := q
    refine ⟨vp_in_nI (n := 0) (N := 1) (by decide) (by decide), ?_⟩
    refine hG 15 _ _ _ _ _ ?_
    exact ⟨⟨by rw [hk]; rfl, hR, by rw [if_pos hk]; rfl⟩, Nat.le_refl _⟩
  · obtain ⟨q1, hR, rfl⟩ := q
    rcases q1 with ⟨hk, rfl⟩ | ⟨hk, rfl⟩
    · exact ⟨9, 4, _, _, _, rfl, by decide, rfl, rfl, Nat.le_of_ble_eq_true rfl, hG 10 _ _ _ _ _ ⟨⟨by rw [hk]; rfl, hR, by rw [if_neg (by rw [hk]; decide)]⟩, Nat.le_refl _⟩⟩
    · exact ⟨12, 4, _, _, _, rfl, by decide, rfl, rfl, Nat.le_of_ble_eq_true rfl, hG 13 _ _ _ _ _ ⟨⟨by rw [hk]; rfl, hR, by rw [if_neg (by rw [hk]; decide)]⟩, Nat.le_refl _⟩⟩
theorem w_where {l : Launch} (hl : l.stackTraces = false) (M : Mem) (o : Ou) {k d : Nat} {r : Int32} {R : Mem → Prop} (a0 : Int32) (hd : d < 150) (hk1 : k ≠ 2) (h : Ct l d 8 96 [.ref 0, .int a0] M o (rF k r R o) (xF IOB IAE k R o)) : Ct l 150 8 189 [.ref 0, .int a0, .ref 63] M o (fun v M' o' => v = some (.int (nI k)) ∧ R M' ∧ o' = (if k = 0 then vp_updL o 0 (r.toInt64) else o)) nX := by
  refine ct_catch ok189 (by decide) (by decide) rfl rfl rfl (by decide) (by decide) (Nat.le_of_ble_eq_true rfl) (fun G hG => hG 0 _ _ _ _ _ ?_)
  refine clP h hd (by decide) (fun v M' o' q => ?_) (fun E M' o' q => ?_)
  · obtain ⟨hk, rfl, hR, rfl⟩ := q
    refine ⟨vp_in_nI (n := 0) (N := 1) (by decide) (by decide), ?_⟩
    refine hG 11 _ _ _ _ _ ?_
    exact ⟨⟨by rw [hk]; rfl, hR, by rw [if_pos hk]; rfl⟩, Nat.le_refl _⟩
  · obtain ⟨q1, hR, rfl⟩ := q
    rcases q1 with ⟨hk, rfl⟩ | ⟨hk, rfl⟩
    · exact ⟨8, 3, _, _, _, rfl, by decide, rfl, rfl, Nat.le_of_ble_eq_true rfl, hG 9 _ _ _ _ _ ⟨⟨by rw [hk]; rfl, hR, by rw [if_neg (by rw [hk]; decide)]⟩, Nat.le_refl _⟩⟩
    · exact absurd hk hk1
theorem w_row {l : Launch} (hl : l.stackTraces = false) (M : Mem) (o : Ou) {k d : Nat} {r : Int32} {R : Mem → Prop} (a0 a1 : Int32) (hd : d < 150) (hk1 : k ≠ 2) (h : Ct l d 8 97 [.ref 0, .int a0, .int a1] M o (rF k r R o) (xF IAE IAE k R o)) : Ct l 150 8 190 [.ref 0, .int a0, .int a1, .ref 63] M o (fun v M' o' => v = some (.int (nI k)) ∧ R M' ∧ o' = (if k = 0 then vp_updL o 0 (r.toInt64) else o)) nX := by
  refine ct_catch ok190 (by decide) (by decide) rfl rfl rfl (by decide) (by decide) (Nat.le_of_ble_eq_true rfl) (fun G hG => hG 0 _ _ _ _ _ ?_)
  refine clP h hd (by decide) (fun v M' o' q => ?_) (fun E M' o' q => ?_)
  · obtain ⟨hk, rfl, hR, rfl⟩ := q
    refine ⟨vp_in_nI (n := 0) (N := 1) (by decide) (by decide), ?_⟩
    refine hG 12 _ _ _ _ _ ?_
    exact ⟨⟨by rw [hk]; rfl, hR, by rw [if_pos hk]; rfl⟩, Nat.le_refl _⟩
  · obtain ⟨q1, hR, rfl⟩ := q
    rcases q1 with ⟨hk, rfl⟩ | ⟨hk, rfl⟩
    · exact ⟨9, 4, _, _, _, rfl, by decide, rfl, rfl, Nat.le_of_ble_eq_true rfl, hG 10 _ _ _ _ _ ⟨⟨by rw [hk]; rfl, hR, by rw [if_neg (by rw [hk]; decide)]⟩, Nat.le_refl _⟩⟩
    · exact absurd hk hk1
theorem w_pony {l : Launch} (hl : l.stackTraces = false) (M : Mem) (o : Ou) {k d : Nat} {r : Int32} {R : Mem → Prop} (a0 : Int32) (hd : d < 150) (h : Ct l d 8 98 [.ref 0, .int a0] M o (rF k r R o) (xF IOB ISE k R o)) : Ct l 150 8 191 [.ref 0, .int a0, .ref 63] M o (fun v M' o' => v = some (.int (nI k)) ∧ R M' ∧ o' = (if k = 0 then vp_updL o 0 (r.toInt64) else o)) nX := by
  refine ct_catch ok191 (by decide) (by decide) rfl rfl rfl (by decide) (by decide) (Nat.le_of_ble_eq_true rfl) (fun G hG => hG 0 _ _ _ _ _ ?_)
  refine clP h hd (by decide) (fun v M' o' q => ?_) (fun E M' o' q => ?_)
  · obtain ⟨hk, rfl, hR, rfl⟩ := q
    refine ⟨vp_in_nI (n := 0) (N := 1) (by decide) (by decide), ?_⟩
    refine hG 14 _ _ _ _ _ ?_
    exact ⟨⟨by rw [hk]; rfl, hR, by rw [if_pos hk]; rfl⟩, Nat.le_refl _⟩
  · obtain ⟨q1, hR, rfl⟩ := q
    rcases q1 with ⟨hk, rfl⟩ | ⟨hk, rfl⟩
    · exact ⟨8, 3, _, _, _, rfl, by decide, rfl, rfl, Nat.le_of_ble_eq_true rfl, hG 9 _ _ _ _ _ ⟨⟨by rw [hk]; rfl, hR, by rw [if_neg (by rw [hk]; decide)]⟩, Nat.le_refl _⟩⟩
    · exact ⟨11, 3, _, _, _, rfl, by decide, rfl, rfl, Nat.le_of_ble_eq_true rfl, hG 12 _ _ _ _ _ ⟨⟨by rw [hk]; rfl, hR, by rw [if_neg (by rw [hk]; decide)]⟩, Nat.le_refl _⟩⟩
theorem w_lame {l : Launch} (hl : l.stackTraces = false) (M : Mem) (o : Ou) {k d : Nat} {r : Int32} {R : Mem → Prop} (a0 a1 : Int32) (hd : d < 150) (h : Ct l d 8 99 [.ref 0, .int a0, .int a1] M o (rF k r R o) (xF IOB IAE k R o)) : Ct l 150 8 192 [.ref 0, .int a0, .int a1, .ref 63] M o (fun v M' o' => v = some (.int (nI k)) ∧ R M' ∧ o' = (if k = 0 then vp_updL o 0 (if r = 0 then 0 else 1) else o)) nX := by
  refine ct_catch ok192 (by decide) (by decide) rfl rfl rfl (by decide) (by decide) (Nat.le_of_ble_eq_true rfl) (fun G hG => hG 0 _ _ _ _ _ ?_)
  refine clP h hd (by decide) (fun v M' o' q => ?_) (fun E M' o' q => ?_)
  · obtain ⟨hk, rfl, hR, rfl⟩ := q
    refine ⟨fun h0 => ?_, fun h0 => ?_⟩
    · refine hG 9 _ _ _ _ _ ?_
      refine ⟨vp_in_nI (n := 0) (N := 1) (by decide) (by decide), ?_⟩
      refine hG 18 _ _ _ _ _ ?_
      exact ⟨⟨by rw [hk]; rfl, hR, by rw [if_pos hk, if_pos h0]; rfl⟩, Nat.le_refl _⟩
    · refine hG 10 _ _ _ _ _ ?_
      refine ⟨vp_in_nI (n := 0) (N := 1) (by decide) (by decide), ?_⟩
      refine hG 18 _ _ _ _ _ ?_
      exact ⟨⟨by rw [hk]; rfl, hR, by rw [if_pos hk, if_neg h0]; rfl⟩, Nat.le_refl _⟩
  · obtain ⟨q1, hR, rfl⟩ := q
    rcases q1 with ⟨hk, rfl⟩ | ⟨hk, rfl⟩
    · exact ⟨12, 4, _, _, _, rfl, by decide, rfl, rfl, Nat.le_of_ble_eq_true rfl, hG 13 _ _ _ _ _ ⟨⟨by rw [hk]; rfl, hR, by rw [if_neg (by rw [hk]; decide)]⟩, Nat.le_refl _⟩⟩
    · exact ⟨15, 4, _, _, _, rfl, by decide, rfl, rfl, Nat.le_of_ble_eq_true rfl, hG 16 _ _ _ _ _ ⟨⟨by rw [hk]; rfl, hR, by rw [if_neg (by rw [hk]; decide)]⟩, Nat.le_refl _⟩⟩
theorem w_told {l : Launch} (hl : l.stackTraces = false) (M : Mem) (o : Ou) {k d : Nat} {r : Int32} {R : Mem → Prop} (a0 a1 : Int32) (hd : d < 150) (h : Ct l d 8 100 [.ref 0, .int a0, .int a1] M o (rF k r R o) (xF IOB IAE k R o)) : Ct l 150 8 193 [.ref 0, .int a0, .int a1, .ref 63] M o (fun v M' o' => v = some (.int (nI k)) ∧ R M' ∧ o' = (if k = 0 then vp_updL o 0 (r.toInt64) else o)) nX := by
  refine ct_catch ok193 (by decide) (by decide) rfl rfl rfl (by decide) (by decide) (Nat.le_of_ble_eq_true rfl) (fun G hG => hG 0 _ _ _ _ _ ?_)
  refine clP h hd (by decide) (fun v M' o' q => ?_) (fun E M' o' q => ?_)
  · obtain ⟨hk, rfl, hR, rfl⟩ := q
    refine ⟨vp_in_nI (n := 0) (N := 1) (by decide) (by decide), ?_⟩
    refine hG 15 _ _ _ _ _ ?_
    exact ⟨⟨by rw [hk]; rfl, hR, by rw [if_pos hk]; rfl⟩, Nat.le_refl _⟩
  · obtain ⟨q1, hR, rfl⟩ := q
    rcases q1 with ⟨hk, rfl⟩ | ⟨hk, rfl⟩
    · exact ⟨9, 4, _, _, _, rfl, by decide, rfl, rfl, Nat.le_of_ble_eq_true rfl, hG 10 _ _ _ _ _ ⟨⟨by rw [hk]; rfl, hR, by rw [if_neg (by rw [hk]; decide)]⟩, Nat.le_refl _⟩⟩
    · exact ⟨12, 4, _, _, _, rfl, by decide, rfl, rfl, Nat.le_of_ble_eq_true rfl, hG 13 _ _ _ _ _ ⟨⟨by rw [hk]; rfl, hR, by rw [if_neg (by rw [hk]; decide)]⟩, Nat.le_refl _⟩⟩
theorem w_mount {l : Launch} (hl : l.stackTraces = false) (M : Mem) (o : Ou) {k d : Nat} {r : Int32} {R : Mem → Prop} (a0 a1 a2 : Int32) (hd : d < 150) (h : Ct l d 8 101 [.ref 0, .int a0, .int a1, .int a2] M o (rF k r R o) (xF IOB IAE k R o)) : Ct l 150 8 194 [.ref 0, .int a0, .int a1, .int a2, .ref 63] M o (fun v M' o' => v = some (.int (nI k)) ∧ R M' ∧ o' = (if k = 0 then vp_updL o 0 (r.toInt64) else o)) nX := by
  refine ct_catch ok194 (by decide) (by decide) rfl rfl rfl (by decide) (by decide) (Nat.le_of_ble_eq_true rfl) (fun G hG => hG 0 _ _ _ _ _ ?_)
  refine clP h hd (by decide) (fun v M' o' q => ?_) (fun E M' o' q => ?_)
  · obtain ⟨hk, rfl, hR, rfl⟩ := q
    refine ⟨vp_in_nI (n := 0) (N := 1) (by decide) (by decide), ?_⟩
    refine hG 16 _ _ _ _ _ ?_
    exact ⟨⟨by rw [hk]; rfl, hR, by rw [if_pos hk]; rfl⟩, Nat.le_refl _⟩
  · obtain ⟨q1, hR, rfl⟩ := q
    rcases q1 with ⟨hk, rfl⟩ | ⟨hk, rfl⟩
    · exact ⟨10, 5, _, _, _, rfl, by decide, rfl, rfl, Nat.le_of_ble_eq_true rfl, hG 11 _ _ _ _ _ ⟨⟨by rw [hk]; rfl, hR, by rw [if_neg (by rw [hk]; decide)]⟩, Nat.le_refl _⟩⟩
    · exact ⟨13, 5, _, _, _, rfl, by decide, rfl, rfl, Nat.le_of_ble_eq_true rfl, hG 14 _ _ _ _ _ ⟨⟨by rw [hk]; rfl, hR, by rw [if_neg (by rw [hk]; decide)]⟩, Nat.le_refl _⟩⟩
theorem w_rest {l : Launch} (hl : l.stackTraces = false) (M : Mem) (o : Ou) {k d : Nat} {r : Int32} {R : Mem → Prop} (hd : d < 150) (hk1 : k ≠ 2) (h : Ct l d 8 103 [.ref 0] M o (rF k r R o) (xF ISE IAE k R o)) : Ct l 150 8 195 [.ref 0, .ref 63] M o (fun v M' o' => v = some (.int (nI k)) ∧ R M' ∧ o' = (if k = 0 then vp_updL o 0 (r.toInt64) else o)) nX := by
  refine ct_catch ok195 (by decide) (by decide) rfl rfl rfl (by decide) (by decide) (Nat.le_of_ble_eq_true rfl) (fun G hG => hG 0 _ _ _ _ _ ?_)
  refine clP h hd (by decide) (fun v M' o' q => ?_) (fun E M' o' q => ?_)
  · obtain ⟨hk, rfl, hR, rfl⟩ := q
    refine ⟨vp_in_nI (n := 0) (N := 1) (by decide) (by decide), ?_⟩
    refine hG 10 _ _ _ _ _ ?_
    exact ⟨⟨by rw [hk]; rfl, hR, by rw [if_pos hk]; rfl⟩, Nat.le_refl _⟩
  · obtain ⟨q1, hR, rfl⟩ := q
    rcases q1 with ⟨hk, rfl⟩ | ⟨hk, rfl⟩
    · exact ⟨7, 2, _, _, _, rfl, by decide, rfl, rfl, Nat.le_of_ble_eq_true rfl, hG 8 _ _ _ _ _ ⟨⟨by rw [hk]; rfl, hR, by rw [if_neg (by rw [hk]; decide)]⟩, Nat.le_refl _⟩⟩
    · exact absurd hk hk1
theorem w_ball {l : Launch} (hl : l.stackTraces = false) (M : Mem) (o : Ou) {k d : Nat} {R : Mem → Prop} (a0 a1 a2 a3 : Int32) (hd : d < 150) (hk1 : k ≠ 2) (h : Ct l d 8 104 [.ref 0, .int a0, .int a1, .int a2, .int a3] M o (vF k R o) (xF IAE IAE k R o)) : Ct l 150 8 196 [.ref 0, .int a0, .int a1, .int a2, .int a3] M o (fun v M' o' => v = some (.int (nI k)) ∧ R M' ∧ o' = o) nX := by
  refine ct_catch ok196 (by decide) (by decide) rfl rfl rfl (by decide) (by decide) (Nat.le_of_ble_eq_true rfl) (fun G hG => hG 0 _ _ _ _ _ ?_)
  refine clP h hd (by decide) (fun v M' o' q => ?_) (fun E M' o' q => ?_)
  · obtain ⟨hk, rfl, hR, rfl⟩ := q
    refine hG 10 _ _ _ _ _ ?_
    exact ⟨⟨by rw [hk]; rfl, hR, rfl⟩, Nat.le_refl _⟩
  · obtain ⟨q1, hR, rfl⟩ := q
    rcases q1 with ⟨hk, rfl⟩ | ⟨hk, rfl⟩
    · exact ⟨7, 5, _, _, _, rfl, by decide, rfl, rfl, Nat.le_of_ble_eq_true rfl, hG 8 _ _ _ _ _ ⟨⟨by rw [hk]; rfl, hR, rfl⟩, Nat.le_refl _⟩⟩
    · exact absurd hk hk1
theorem w_rider {l : Launch} (hl : l.stackTraces = false) (M : Mem) (o : Ou) {k d : Nat} {r : Int32} {R : Mem → Prop} (a0 a1 a2 a3 a4 : Int32) (hd : d < 150) (h : Ct l d 8 105 [.ref 0, .int a0, .int a1, .int a2, .int a3, .int a4] M o (rF k r R o) (xF IAE ISE k R o)) : Ct l 150 8 197 [.ref 0, .int a0, .int a1, .int a2, .int a3, .int a4, .ref 63] M o (fun v M' o' => v = some (.int (nI k)) ∧ R M' ∧ o' = (if k = 0 then vp_updL o 0 (r.toInt64) else o)) nX := by
  refine ct_catch ok197 (by decide) (by decide) rfl rfl rfl (by decide) (by decide) (Nat.le_of_ble_eq_true rfl) (fun G hG => hG 0 _ _ _ _ _ ?_)
  refine clP h hd (by decide) (fun v M' o' q => ?_) (fun E M' o' q => ?_)
  · obtain ⟨hk, rfl, hR, rfl⟩ := q
    refine ⟨vp_in_nI (n := 0) (N := 1) (by decide) (by decide), ?_⟩
    refine hG 18 _ _ _ _ _ ?_
    exact ⟨⟨by rw [hk]; rfl, hR, by rw [if_pos hk]; rfl⟩, Nat.le_refl _⟩
  · obtain ⟨q1, hR, rfl⟩ := q
    rcases q1 with ⟨hk, rfl⟩ | ⟨hk, rfl⟩
    · exact ⟨12, 7, _, _, _, rfl, by decide, rfl, rfl, Nat.le_of_ble_eq_true rfl, hG 13 _ _ _ _ _ ⟨⟨by rw [hk]; rfl, hR, by rw [if_neg (by rw [hk]; decide)]⟩, Nat.le_refl _⟩⟩
    · exact ⟨15, 7, _, _, _, rfl, by decide, rfl, rfl, Nat.le_of_ble_eq_true rfl, hG 16 _ _ _ _ _ ⟨⟨by rw [hk]; rfl, hR, by rw [if_neg (by rw [hk]; decide)]⟩, Nat.le_refl _⟩⟩
