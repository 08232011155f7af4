/-! CONTRACTS: the kind's cup. -/
theorem c_X6_isOpen {l : Launch} (hl : l.stackTraces = false) (M : Mem) (o : Ou) (hz : bz (M 3 4)) : Ct l 8 0 68 [.ref 3] M o (rI (M 3 4) M o) nX := by
  refine ct_plain hl ok68 (by decide) (by decide) rfl rfl (by decide) (Nat.le_of_ble_eq_true rfl) (fun G hG => hG 0 _ _ _ _ _ ?_)
  exact ⟨hz, ⟨rfl, rfl, rfl⟩, Nat.le_refl _⟩
theorem c_X6_isDrawn {l : Launch} (hl : l.stackTraces = false) (M : Mem) (o : Ou) (hz : bz (M 3 5)) : Ct l 8 0 69 [.ref 3] M o (rI (M 3 5) M o) nX := by
  refine ct_plain hl ok69 (by decide) (by decide) rfl rfl (by decide) (Nat.le_of_ble_eq_true rfl) (fun G hG => hG 0 _ _ _ _ _ ?_)
  exact ⟨hz, ⟨rfl, rfl, rfl⟩, Nat.le_refl _⟩
theorem c_X6_limit {l : Launch} (hl : l.stackTraces = false) (M : Mem) (o : Ou) : Ct l 8 0 70 [.ref 3] M o (rI (M 3 6) M o) nX := by
  refine ct_plain hl ok70 (by decide) (by decide) rfl rfl (by decide) (Nat.le_of_ble_eq_true rfl) (fun G hG => hG 0 _ _ _ _ _ ?_)
  exact ⟨⟨rfl, rfl, rfl⟩, Nat.le_refl _⟩
theorem c_X6_chukkas {l : Launch} (hl : l.stackTraces = false) (M : Mem) (o : Ou) : Ct l 8 0 71 [.ref 3] M o (rI (M 3 7) M o) nX := by
  refine ct_plain hl ok71 (by decide) (by decide) rfl rfl (by decide) (Nat.le_of_ble_eq_true rfl) (fun G hG => hG 0 _ _ _ _ _ ?_)
  exact ⟨⟨rfl, rfl, rfl⟩, Nat.le_refl _⟩
theorem c_X6_matchesPlayed {l : Launch} (hl : l.stackTraces = false) (M : Mem) (o : Ou) : Ct l 8 0 73 [.ref 3] M o (rI (M 3 8) M o) nX := by
  refine ct_plain hl ok73 (by decide) (by decide) rfl rfl (by decide) (Nat.le_of_ble_eq_true rfl) (fun G hG => hG 0 _ _ _ _ _ ?_)
  exact ⟨⟨rfl, rfl, rfl⟩, Nat.le_refl _⟩
theorem c_X6_roundsBegun {l : Launch} (hl : l.stackTraces = false) (M : Mem) (o : Ou) : Ct l 8 0 74 [.ref 3] M o (rI (M 3 9) M o) nX := by
  refine ct_plain hl ok74 (by decide) (by decide) rfl rfl (by decide) (Nat.le_of_ble_eq_true rfl) (fun G hG => hG 0 _ _ _ _ _ ?_)
  exact ⟨⟨rfl, rfl, rfl⟩, Nat.le_refl _⟩
abbrev rl (M : Mem) (i : Nat) (xs : List Int32) : Prop := Lst (M (i + 12)) (M i 1) xs
theorem c_X6_teams {l : Launch} (hl : l.stackTraces = false) (M : Mem) (o : Ou) : Ct l 9 0 72 [.ref 3] M o (rI (M 4 1) M o) nX := by
  refine ct_plain hl ok72 (by decide) (by decide) rfl rfl (by decide) (Nat.le_of_ble_eq_true rfl) (fun G hG => hG 0 _ _ _ _ _ ?_)
  exact clI (c_X4_size hl M o (i := 4) (by decide)) (by decide) (by decide) ⟨⟨rfl, rfl, rfl⟩, Nat.le_refl _⟩
theorem bzc (b : Bool) : bz (cond b 1 0) := by cases b; exact bz0; exact bz1
theorem has_l {l : Launch} (hl : l.stackTraces = false) (M : Mem) (o : Ou) {i : Nat} {xs : List Int32} (t : Int32) (hi : i = 4 ∨ i = 5 ∨ i = 6 ∨ i = 7) (h : rl M i xs) : Ct l 8 0 49 [.ref i, .int t] M o (rI (cond (decide (t ∈ xs)) 1 0) M o) nX := by
  have := c_X4_contains hl M o t hi h.1 h.2.1
  rw [Lst.has h] at this
  exact this
def atN (xs : List Int32) (k : Nat) : Int32 := if k < xs.length then xs.getD k 0 else -1
def atI (xs : List Int32) (k : Int32) : Int32 := if k < 0 ∨ nI xs.length ≤ k then -1 else xs.getD k.toNatClampNeg 0
theorem atI_n (xs : List Int32) (hx : xs.length ≤ 8) {k : Nat} (hk : k < 2 ^ 31) : atI xs (nI k) = atN xs k := by
  unfold atI atN
  by_cases h : k < xs.length
  · rw [if_neg (fun q => q.elim (nI_pos hk) (nI_ge h (by omega))), if_pos h, nI_clamp hk]
  · rw [if_pos (Or.inr (nI_le (by omega) hk)), if_neg h]
theorem at_l {l : Launch} (hl : l.stackTraces = false) (M : Mem) (o : Ou) {i : Nat} {xs : List Int32} (k : Int32) (hi : i = 4 ∨ i = 5 ∨ i = 6 ∨ i = 7) (h : rl M i xs) : Ct l 8 0 48 [.ref i, .int k] M o (rI (atI xs k) M o) nX := by
  have := c_X4_at hl M o k hi h.1 h.2.1
  have e : (if k < 0 ∨ nI xs.length ≤ k then -1 else M (i + 12) k.toNatClampNeg) = atI xs k := by
    unfold atI
    by_cases q : k < 0 ∨ nI xs.length ≤ k
    · rw [if_pos q, if_pos q]
    · rw [if_neg q, if_neg q]
      have h1 : ¬ k < 0 := fun w => q (Or.inl w)
      obtain ⟨j, hj, rfl⟩ := nI_of h1
      have : j < xs.length := by
        rcases Nat.lt_or_ge j xs.length with w | w
        · exact w
        · exact absurd (Or.inr (nI_le w hj)) q
      rw [nI_clamp hj]
      exact h.2.2 j this
  rw [e] at this
  exact this
theorem c_X6_holds {l : Launch} (hl : l.stackTraces = false) (M : Mem) (o : Ou) {E : List Int32} (t : Int32) (h : rl M 4 E) : Ct l 9 0 75 [.ref 3, .int t] M o (rI (cond (decide (t ∈ E)) 1 0) M o) nX := by
  refine ct_plain hl ok75 (by decide) (by decide) rfl rfl (by decide) (Nat.le_of_ble_eq_true rfl) (fun G hG => hG 0 _ _ _ _ _ ?_)
  exact clI (has_l hl M o (i := 4) t (by decide) h) (by decide) (by decide) ⟨bzc _, ⟨rfl, rfl, rfl⟩, Nat.le_refl _⟩
theorem c_X6_admit {l : Launch} (hl : l.stackTraces = false) (M : Mem) (o : Ou) {E : List Int32} (t : Int32) (h : rl M 4 E) (h8 : E.length < 8) : Ct l 9 0 76 [.ref 3, .int t] M o (rI (nI (E.length + 1)) (mset (mset M 16 E.length t) 4 1 (nI (E.length + 1))) o) nX := by
  refine ct_plain hl ok76 (by decide) (by decide) rfl rfl (by decide) (Nat.le_of_ble_eq_true rfl) (fun G hG => hG 0 _ _ _ _ _ ?_)
  exact clV (c_X4_append hl M o (i := 4) t (by decide) h.1 h8) (by decide) (by decide) (clI (c_X4_size hl _ o (i := 4) (by decide)) (by decide) (by decide) ⟨⟨rfl, rfl, rfl⟩, Nat.le_refl _⟩)
abbrev cNew (M : Mem) (a b : Int32) : Mem := mset (mset (mset (mset (mset (mset (mset (mset (mset (mset M 4 1 0) 5 1 0) 6 1 0) 7 1 0) 3 4 1) 3 5 0) 3 6 a) 3 7 b) 3 8 0) 3 9 0
theorem c_X6_beginAnew {l : Launch} (hl : l.stackTraces = false) (M : Mem) (o : Ou) (a b : Int32) : Ct l 9 0 67 [.ref 3, .int a, .int b] M o (rV (cNew M a b) o) nX := by
  refine ct_plain hl ok67 (by decide) (by decide) rfl rfl (by decide) (Nat.le_of_ble_eq_true rfl) (fun G hG => hG 0 _ _ _ _ _ ?_)
  exact clV (c_X4_empty hl M o (i := 4) (by decide)) (by decide) (by decide) (clV (c_X4_empty hl _ o (i := 5) (by decide)) (by decide) (by decide) (clV (c_X4_empty hl _ o (i := 6) (by decide)) (by decide) (by decide) (clV (c_X4_empty hl _ o (i := 7) (by decide)) (by decide) (by decide) ⟨bz1, bz0, ⟨rfl, rfl, rfl⟩, Nat.le_refl _⟩)))
def snF (W H : List Int32) (m w : Nat) : Int32 := if W.length = 1 ∧ H.length = 1 then (if 0 < m then -1 else if w = 0 then atN W 0 else atN H 0) else if m < W.length / 2 then atN W (2 * m + w) else if m - W.length / 2 < H.length / 2 then atN H (2 * (m - W.length / 2) + w) else -1
theorem c_X6_sideOfNext {l : Launch} (hl : l.stackTraces = false) (M : Mem) (o : Ou) {W H L : List Int32} {w : Nat} (hW : rl M 5 W) (hH : rl M 6 H) (hL : rl M 7 L) (hw : w < 2) : Ct l 9 0 78 [.ref 3, .int (nI w)] M o (rI (snF W H L.length w) M o) nX := by
  have w8 := hW.2.1
  have h8 := hH.2.1
  have l8 := hL.2.1
  refine ct_plain hl ok78 (by decide) (by decide) rfl rfl (by decide) (Nat.le_of_ble_eq_true rfl) (fun G hG => hG 0 _ _ _ _ _ ?_)
  refine clI (c_X4_size hl M o (i := 7) (by decide)) (by decide) (by decide) (clI (c_X4_size hl M o (i := 5) (by decide)) (by decide) (by decide) ?_)
  rw [hL.1, hW.1]
  have rest : ¬ (W.length = 1 ∧ H.length = 1) → G 30 [some (.ref 3), some (.int (nI w)), some (.int (nI L.length)), none, none] [] M o 0 := by
    intro hn
    refine hG 30 _ _ _ _ _ ?_
    have e2 : ∀ a : Nat, a ≤ 8 → nI a / 2 = nI (a / 2) := fun a ha => by rw [i2]; exact pk_div (by omega) (by decide) (by decide)
    have e3 : ∀ a : Nat, 2 * nI a + nI w = nI (2 * a + w) := fun a => by rw [i2, pk_mul, nI_add]
    refine clI (c_X4_size hl M o (i := 5) (by decide)) (by decide) (by decide) ⟨by decide, ?_⟩
    rw [hW.1, e2 _ w8]
    refine ⟨fun h => ?_, fun h => ?_⟩
    · refine hG 48 _ _ _ _ _ ?_
      have h : W.length / 2 ≤ L.length := (nI_leI (by omega) (by omega)).mp h
      refine clI (c_X4_size hl M o (i := 6) (by decide)) (by decide) (by decide) ⟨by decide, ?_⟩
      rw [hH.1, e2 _ h8, pk_sub h]
      refine ⟨fun h2 => ?_, fun h2 => ?_⟩
      · refine hG 68 _ _ _ _ _ ?_
        have h2 : H.length / 2 ≤ L.length - W.length / 2 := (nI_leI (by omega) (by omega)).mp h2
        exact ⟨⟨by unfold snF; rw [if_neg hn, if_neg (by omega), if_neg (by omega)], rfl, rfl⟩, Nat.le_refl _⟩
      · have h2 : L.length - W.length / 2 < H.length / 2 := Nat.not_le.mp (fun q => h2 (nI_le q (by omega)))
        refine clI (at_l hl M o (i := 6) _ (by decide) hH) (by decide) (by decide) ?_
        refine hG 69 _ _ _ _ _ ?_
        exact ⟨⟨by unfold snF; rw [if_neg hn, if_neg (by omega), if_pos h2, e3, atI_n _ h8 (by omega)], rfl, rfl⟩, Nat.le_refl _⟩
    · have h : L.length < W.length / 2 := Nat.not_le.mp (fun q => h (nI_le q (by omega)))
      refine clI (at_l hl M o (i := 5) _ (by decide) hW) (by decide) (by decide) ?_
      exact ⟨⟨by unfold snF; rw [if_neg hn, if_pos h, e3, atI_n _ w8 (by omega)], rfl, rfl⟩, Nat.le_refl _⟩
  refine ⟨fun h => rest (fun q => h (by rw [q.1]; rfl)), fun h1 => clI (c_X4_size hl M o (i := 6) (by decide)) (by decide) (by decide) ?_⟩
  rw [hH.1]
  refine ⟨fun h => rest (fun q => h (by rw [q.2]; rfl)), fun h2 => ?_⟩
  have h1 : W.length = 1 := nI_inj (by omega) (by decide) h1
  have h2 : H.length = 1 := nI_inj (by omega) (by decide) h2
  refine ⟨fun h => ?_, fun h => ?_⟩
  · refine hG 18 _ _ _ _ _ ?_
    have h : ¬ 0 < L.length := fun q => nI_nle q (by omega) h
    refine ⟨fun h3 => ?_, fun h3 => ?_⟩
    · refine hG 25 _ _ _ _ _ ?_
      have h3 : ¬ w = 0 := fun q => h3 (by rw [q]; rfl)
      refine clI (at_l hl M o (i := 6) _ (by decide) hH) (by decide) (by decide) ?_
      rw [i0, atI_n _ h8 (by omega)]
      exact ⟨⟨by unfold snF; rw [if_pos ⟨h1, h2⟩, if_neg h, if_neg h3], rfl, rfl⟩, Nat.le_refl _⟩
    · have h3 : w = 0 := nI_inj (by omega) (by decide) h3
      refine clI (at_l hl M o (i := 5) _ (by decide) hW) (by decide) (by decide) ?_
      refine hG 29 _ _ _ _ _ ?_
      rw [i0, atI_n _ w8 (by omega)]
      exact ⟨⟨by unfold snF; rw [if_pos ⟨h1, h2⟩, if_neg h, if_pos h3], rfl, rfl⟩, Nat.le_refl _⟩
  · refine hG 29 _ _ _ _ _ ?_
    have h : 0 < L.length := by
      rcases Nat.lt_or_ge 0 L.length with q | q
      · exact q
      · exact absurd (by rw [show L.length = 0 by omega]; decide) h
    exact ⟨⟨by unfold snF; rw [if_pos ⟨h1, h2⟩, if_pos h], rfl, rfl⟩, Nat.le_refl _⟩
def wnF (d : Int32) (W H : List Int32) : Bool := !decide (d = 0) && decide (W.length + H.length = 1)
theorem c_X6_isWon {l : Launch} (hl : l.stackTraces = false) (M : Mem) (o : Ou) {W H : List Int32} (hz : bz (M 3 5)) (hW : rl M 5 W) (hH : rl M 6 H) : Ct l 9 0 81 [.ref 3] M o (rI (cond (wnF (M 3 5) W H) 1 0) M o) nX := by
  have w8 := hW.2.1
  have h8 := hH.2.1
  refine ct_plain hl ok81 (by decide) (by decide) rfl rfl (by decide) (Nat.le_of_ble_eq_true rfl) (fun G hG => hG 0 _ _ _ _ _ ?_)
  refine ⟨fun h => ?_, fun h => clI (c_X4_size hl M o (i := 5) (by decide)) (by decide) (by decide) (clI (c_X4_size hl M o (i := 6) (by decide)) (by decide) (by decide) ?_)⟩
  · refine hG 14 _ _ _ _ _ ?_
    exact ⟨bz0, ⟨by unfold wnF; rw [decide_eq_true h]; rfl, rfl, rfl⟩, Nat.le_refl _⟩
  · rw [hW.1, hH.1]
    refine ⟨fun h2 => ?_, fun h2 => ?_⟩
    · refine hG 14 _ _ _ _ _ ?_
      have h2 : ¬ W.length + H.length = 1 := fun q => h2 (by rw [nI_add, q]; rfl)
      exact ⟨bz0, ⟨by unfold wnF; rw [decide_eq_false h2, Bool.and_false]; rfl, rfl, rfl⟩, Nat.le_refl _⟩
    · refine hG 15 _ _ _ _ _ ?_
      rw [nI_add] at h2
      have h2 : W.length + H.length = 1 := nI_inj (by omega) (by decide) h2
      exact ⟨bz1, ⟨by unfold wnF; rw [decide_eq_false h, decide_eq_true h2]; rfl, rfl, rfl⟩, Nat.le_refl _⟩
def poF (d : Int32) (E W H : List Int32) (t : Int32) : Int32 := if d = 0 ∨ t ∉ E then 0 else if t ∉ W ∧ t ∉ H then 3 else if W.length + H.length = 1 then 4 else if t ∈ W then 1 else 2
theorem c_X6_placeOf {l : Launch} (hl : l.stackTraces = false) (M : Mem) (o : Ou) {E W H : List Int32} (t : Int32) (hz : bz (M 3 5)) (hE : rl M 4 E) (hW : rl M 5 W) (hH : rl M 6 H) : Ct l 10 0 82 [.ref 3, .int t] M o (rI (poF (M 3 5) E W H t) M o) nX := by
  refine ct_plain hl ok82 (by decide) (by decide) rfl rfl (by decide) (Nat.le_of_ble_eq_true rfl) (fun G hG => hG 0 _ _ _ _ _ ?_)
  refine ⟨fun h => ?_, fun h => clI (has_l hl M o (i := 4) t (by decide) hE) (by decide) (by decide) ⟨fun h2 => ?_, fun h2 => ?_⟩⟩
  · refine hG 8 _ _ _ _ _ ?_
    exact ⟨⟨by unfold poF; rw [if_pos (Or.inl h)], rfl, rfl⟩, Nat.le_refl _⟩
  · refine hG 10 _ _ _ _ _ ?_
    have h2 : t ∈ E := of_decide_eq_true (cond_n h2)
    have hno : ¬ (M 3 5 = 0 ∨ t ∉ E) := fun q => q.elim h (fun q => q h2)
    have k24 : (t ∈ W ∨ t ∈ H) → G 24 [some (.ref 3), some (.int t), some (.int (cond (decide (t ∈ W)) 1 0))] [] M o 0 := by
      intro h3
      have hno2 : ¬ (t ∉ W ∧ t ∉ H) := fun q => h3.elim q.1 q.2
      refine hG 24 _ _ _ _ _ ?_
      refine clI (c_X6_isWon hl M o hz hW hH) (by decide) (by decide) ⟨fun h4 => ?_, fun h4 => ?_⟩
      · refine hG 29 _ _ _ _ _ ?_
        have h4 : ¬ W.length + H.length = 1 := fun q => by
          have := cond_z h4
          unfold wnF at this
          rw [decide_eq_true q, decide_eq_false h] at this
          exact absurd this (by decide)
        refine ⟨fun h5 => ?_, fun h5 => ?_⟩
        · refine hG 33 _ _ _ _ _ ?_
          have h5 := of_decide_eq_false (cond_z h5)
          exact ⟨⟨by unfold poF; rw [if_neg hno, if_neg hno2, if_neg h4, if_neg h5], rfl, rfl⟩, Nat.le_refl _⟩
        · refine hG 34 _ _ _ _ _ ?_
          have h5 := of_decide_eq_true (cond_n h5)
          exact ⟨⟨by unfold poF; rw [if_neg hno, if_neg hno2, if_neg h4, if_pos h5], rfl, rfl⟩, Nat.le_refl _⟩
      · have h4 : W.length + H.length = 1 := by
          have := cond_n h4
          unfold wnF at this
          simp only [Bool.and_eq_true, decide_eq_true_eq] at this
          exact this.2
        exact ⟨⟨by unfold poF; rw [if_neg hno, if_neg hno2, if_pos h4], rfl, rfl⟩, Nat.le_refl _⟩
    refine clI (has_l hl M o (i := 5) t (by decide) hW) (by decide) (by decide) ⟨fun h3 => k24 (Or.inl (of_decide_eq_true (cond_n h3))), fun h3 => clI (has_l hl M o (i := 6) t (by decide) hH) (by decide) (by decide) ⟨fun h4 => k24 (Or.inr (of_decide_eq_true (cond_n h4))), fun h4 => ?_⟩⟩
    exact ⟨⟨by unfold poF; rw [if_neg hno, if_pos ⟨of_decide_eq_false (cond_z h3), of_decide_eq_false (cond_z h4)⟩], rfl, rfl⟩, Nat.le_refl _⟩
  · have h2 : t ∉ E := of_decide_eq_false (cond_z h2)
    exact ⟨⟨by unfold poF; rw [if_pos (Or.inr h2)], rfl, rfl⟩, Nat.le_refl _⟩
theorem c_X6_inRow {l : Launch} (hl : l.stackTraces = false) (M : Mem) (o : Ou) {W H : List Int32} {w : Nat} (k : Int32) (hw : w < 2) (hW : rl M 5 W) (hH : rl M 6 H) : Ct l 9 0 83 [.ref 3, .int (nI w), .int k] M o (rI (if w = 0 then atI W k else atI H k) M o) nX := by
  refine ct_plain hl ok83 (by decide) (by decide) rfl rfl (by decide) (Nat.le_of_ble_eq_true rfl) (fun G hG => hG 0 _ _ _ _ _ ?_)
  refine ⟨fun h => ?_, fun h => ?_⟩
  · refine hG 7 _ _ _ _ _ ?_
    have h : ¬ w = 0 := fun q => h (by rw [q]; rfl)
    refine ⟨fun h2 => absurd (by rw [show w = 1 by omega]; rfl) h2, fun _ => clI (at_l hl M o (i := 6) k (by decide) hH) (by decide) (by decide) ?_⟩
    refine hG 16 _ _ _ _ _ ?_
    exact ⟨⟨by rw [if_neg h], rfl, rfl⟩, Nat.le_refl _⟩
  · have h : w = 0 := nI_inj (by omega) (by decide) h
    exact clI (at_l hl M o (i := 5) k (by decide) hW) (by decide) (by decide) ⟨⟨by rw [if_pos h], rfl, rfl⟩, Nat.le_refl _⟩
