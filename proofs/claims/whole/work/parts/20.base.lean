/-! CONTRACTS: forms of ends, and calls. -/
abbrev rI (r : Int32) (M1 : Mem) (o1 : Ou) : Option Value → Mem → Ou → Prop := fun v M' o' => v = some (.int r) ∧ M' = M1 ∧ o' = o1
abbrev rJ (r : Int64) (M1 : Mem) (o1 : Ou) : Option Value → Mem → Ou → Prop := fun v M' o' => v = some (.long r) ∧ M' = M1 ∧ o' = o1
abbrev rV (M1 : Mem) (o1 : Ou) : Option Value → Mem → Ou → Prop := fun v M' o' => v = none ∧ M' = M1 ∧ o' = o1
abbrev nX : String → Mem → Ou → Prop := fun _ _ _ => False
abbrev IAE : String := "java/lang/IllegalArgumentException"
abbrev ISE : String := "java/lang/IllegalStateException"
abbrev IOB : String := "java/lang/IndexOutOfBoundsException"
section CLS
variable {l : Launch} {d d' K kc k mi : Nat} {as : List Value} {M M1 : Mem} {o o1 : Ou} {cont : Option Value → Mem → Ou → Nat → Prop} {xc : String → Mem → Ou → Nat → Prop}
theorem clI {r : Int32} (h : Ct l d' kc mi as M o (rI r M1 o1) nX) (hd : d' < d) (hk : k + kc ≤ K) (hc : cont (some (.int r)) M1 o1 (k + kc)) : ClA l d K k mi as M o cont xc :=
  ⟨d', kc, _, _, hd, hk, h, fun v M' o' q => by obtain ⟨rfl, rfl, rfl⟩ := q; exact hc, fun _ _ _ q => q.elim⟩
theorem clJ {r : Int64} (h : Ct l d' kc mi as M o (rJ r M1 o1) nX) (hd : d' < d) (hk : k + kc ≤ K) (hc : cont (some (.long r)) M1 o1 (k + kc)) : ClA l d K k mi as M o cont xc :=
  ⟨d', kc, _, _, hd, hk, h, fun v M' o' q => by obtain ⟨rfl, rfl, rfl⟩ := q; exact hc, fun _ _ _ q => q.elim⟩
theorem clV (h : Ct l d' kc mi as M o (rV M1 o1) nX) (hd : d' < d) (hk : k + kc ≤ K) (hc : cont none M1 o1 (k + kc)) : ClA l d K k mi as M o cont xc :=
  ⟨d', kc, _, _, hd, hk, h, fun v M' o' q => by obtain ⟨rfl, rfl, rfl⟩ := q; exact hc, fun _ _ _ q => q.elim⟩
/-- a call that returns under P, else throws E -/
theorem clR {P : Prop} {E : String} (h : Ct l d' kc mi as M o (fun v M' o' => P ∧ rV M1 o1 v M' o') (fun E' M' o' => ¬ P ∧ E' = E ∧ M' = M1 ∧ o' = o1)) (hd : d' < d) (hk : k + kc ≤ K) (hc : P → cont none M1 o1 (k + kc)) (hx : ¬ P → xc E M1 o1 (k + kc)) : ClA l d K k mi as M o cont xc :=
  ⟨d', kc, _, _, hd, hk, h, fun v M' o' q => by obtain ⟨hp, rfl, rfl, rfl⟩ := q; exact hc hp, fun _ _ _ q => by obtain ⟨hp, rfl, rfl, rfl⟩ := q; exact hx hp⟩
theorem clP {post : Option Value → Mem → Ou → Prop} {px : String → Mem → Ou → Prop} (h : Ct l d' kc mi as M o post px) (hd : d' < d) (hk : k + kc ≤ K) (hc : ∀ v M' o', post v M' o' → cont v M' o' (k + kc)) (hx : ∀ E M' o', px E M' o' → xc E M' o' (k + kc)) : ClA l d K k mi as M o cont xc := ⟨d', kc, _, _, hd, hk, h, hc, hx⟩
end CLS
theorem bz0 : bz 0 := Or.inl rfl
theorem bz1 : bz 1 := Or.inr rfl
theorem i4 : (4 : Int32) = nI 4 := by decide
theorem i0 : (0 : Int32) = nI 0 := by decide
theorem i1 : (1 : Int32) = nI 1 := by decide
theorem i2 : (2 : Int32) = nI 2 := by decide
theorem i3 : (3 : Int32) = nI 3 := by decide
theorem i8 : (8 : Int32) = nI 8 := by decide
theorem nI_inj {a b : Nat} (ha : a < 2 ^ 31) (hb : b < 2 ^ 31) (h : nI a = nI b) : a = b := (nI_eq ha hb).mp h
/-- the sum of a team of four -/
def sum4 (h m : Nat → Int32) (T : Nat) : Int32 := 0 + h (m (4 * T)).toNatClampNeg + h (m (4 * T + 1)).toNatClampNeg + h (m (4 * T + 2)).toNatClampNeg + h (m (4 * T + 3)).toNatClampNeg
theorem tidx (T p : Nat) : nI T * 4 + nI p = nI (4 * T + p) := by rw [i4, pk_mul, nI_add, Nat.mul_comm]
theorem tidx' (T p : Nat) : 4 * nI T + nI p = nI (4 * T + p) := by rw [i4, pk_mul, nI_add]
theorem c_X3_players {l : Launch} (hl : l.stackTraces = false) (M : Mem) (o : Ou) : Ct l 8 0 33 [.ref 1] M o (rI (M 1 3) M o) nX := by
  refine ct_plain hl ok33 (by decide) (by decide) rfl rfl (by decide) (Nat.le_of_ble_eq_true rfl) (fun G hG => hG 0 _ _ _ _ _ ?_)
  exact ⟨⟨rfl, rfl, rfl⟩, Nat.le_refl _⟩
theorem c_X3_teams {l : Launch} (hl : l.stackTraces = false) (M : Mem) (o : Ou) : Ct l 8 0 34 [.ref 1] M o (rI (M 1 4) M o) nX := by
  refine ct_plain hl ok34 (by decide) (by decide) rfl rfl (by decide) (Nat.le_of_ble_eq_true rfl) (fun G hG => hG 0 _ _ _ _ _ ?_)
  exact ⟨⟨rfl, rfl, rfl⟩, Nat.le_refl _⟩
theorem c_X3_playersAreFull {l : Launch} (hl : l.stackTraces = false) (M : Mem) (o : Ou) : Ct l 8 0 35 [.ref 1] M o (rI (if M 1 3 < 32 then 0 else 1) M o) nX := by
  refine ct_plain hl ok35 (by decide) (by decide) rfl rfl (by decide) (Nat.le_of_ble_eq_true rfl) (fun G hG => hG 0 _ _ _ _ _ ?_)
  refine ⟨fun h => ?_, fun h => ?_⟩
  · refine hG 6 _ _ _ _ _ ?_
    exact ⟨bz0, ⟨by rw [if_pos h], rfl, rfl⟩, Nat.le_refl _⟩
  · refine hG 7 _ _ _ _ _ ?_
    exact ⟨bz1, ⟨by rw [if_neg h], rfl, rfl⟩, Nat.le_refl _⟩
theorem c_X3_teamsAreFull {l : Launch} (hl : l.stackTraces = false) (M : Mem) (o : Ou) : Ct l 8 0 36 [.ref 1] M o (rI (if M 1 4 < 8 then 0 else 1) M o) nX := by
  refine ct_plain hl ok36 (by decide) (by decide) rfl rfl (by decide) (Nat.le_of_ble_eq_true rfl) (fun G hG => hG 0 _ _ _ _ _ ?_)
  refine ⟨fun h => ?_, fun h => ?_⟩
  · refine hG 6 _ _ _ _ _ ?_
    exact ⟨bz0, ⟨by rw [if_pos h], rfl, rfl⟩, Nat.le_refl _⟩
  · refine hG 7 _ _ _ _ _ ?_
    exact ⟨bz1, ⟨by rw [if_neg h], rfl, rfl⟩, Nat.le_refl _⟩
theorem c_X3_addPlayer {l : Launch} (hl : l.stackTraces = false) (M : Mem) (o : Ou) (h : Int32) (hin : vp_in (M 1 3) 32) : Ct l 8 0 37 [.ref 1, .int h] M o (rI (M 1 3 + 1 - 1) (mset (mset M 12 (M 1 3).toNatClampNeg h) 1 3 (M 1 3 + 1)) o) nX := by
  refine ct_plain hl ok37 (by decide) (by decide) rfl rfl (by decide) (Nat.le_of_ble_eq_true rfl) (fun G hG => hG 0 _ _ _ _ _ ?_)
  refine ⟨hin, ?_⟩
  exact ⟨⟨rfl, rfl, rfl⟩, Nat.le_refl _⟩
theorem c_X3_changeHandicap {l : Launch} (hl : l.stackTraces = false) (M : Mem) (o : Ou) (p h : Int32) (hin : vp_in p 32) : Ct l 8 0 38 [.ref 1, .int p, .int h] M o (rI (M 12 p.toNatClampNeg) (mset M 12 p.toNatClampNeg h) o) nX := by
  refine ct_plain hl ok38 (by decide) (by decide) rfl rfl (by decide) (Nat.le_of_ble_eq_true rfl) (fun G hG => hG 0 _ _ _ _ _ ?_)
  refine ⟨hin, hin, ?_⟩
  exact ⟨⟨rfl, rfl, rfl⟩, Nat.le_refl _⟩
theorem c_X3_inTeam {l : Launch} (hl : l.stackTraces = false) (M : Mem) (o : Ou) (p : Int32) (hin : vp_in p 32) (hz : bz (M 13 p.toNatClampNeg)) : Ct l 8 0 39 [.ref 1, .int p] M o (rI (M 13 p.toNatClampNeg) M o) nX := by
  refine ct_plain hl ok39 (by decide) (by decide) rfl rfl (by decide) (Nat.le_of_ble_eq_true rfl) (fun G hG => hG 0 _ _ _ _ _ ?_)
  exact ⟨hin, hz, ⟨rfl, rfl, rfl⟩, Nat.le_refl _⟩
theorem c_X3_seat {l : Launch} (hl : l.stackTraces = false) (M : Mem) (o : Ou) (j p : Int32) (h1 : vp_in j 32) (h2 : vp_in p 32) : Ct l 8 0 41 [.ref 1, .int j, .int p] M o (rV (mset (mset M 14 j.toNatClampNeg p) 13 p.toNatClampNeg 1) o) nX := by
  refine ct_plain hl ok41 (by decide) (by decide) rfl rfl (by decide) (Nat.le_of_ble_eq_true rfl) (fun G hG => hG 0 _ _ _ _ _ ?_)
  exact ⟨h1, h2, bz1, ⟨rfl, rfl, rfl⟩, Nat.le_refl _⟩
theorem c_X3_memberOf {l : Launch} (hl : l.stackTraces = false) (M : Mem) (o : Ou) {T q : Nat} (hT : T < 8) (hq : q < 4) : Ct l 8 0 42 [.ref 1, .int (nI T), .int (nI q)] M o (rI (M 14 (4 * T + q)) M o) nX := by
  refine ct_plain hl ok42 (by decide) (by decide) rfl rfl (by decide) (Nat.le_of_ble_eq_true rfl) (fun G hG => hG 0 _ _ _ _ _ ?_)
  have e : nI T * 4 + nI q = nI (4 * T + q) := tidx T q
  refine ⟨by rw [e]; exact vp_in_nI (show 4 * T + q < 32 by omega) (by decide), ⟨?_, rfl, rfl⟩, Nat.le_refl _⟩
  rw [e, nI_clamp (by omega)]
theorem c_X3_sumOf {l : Launch} (hl : l.stackTraces = false) (M : Mem) (o : Ou) {T : Nat} (hT : T < 8) (hm : ∀ q, q < 4 → vp_in (M 14 (4 * T + q)) 32) : Ct l 9 0 43 [.ref 1, .int (nI T)] M o (rI (sum4 (M 12) (M 14) T) M o) nX := by
  refine ct_plain hl ok43 (by decide) (by decide) rfl rfl (by decide) (Nat.le_of_ble_eq_true rfl) (fun G hG => hG 0 _ _ _ _ _ ?_)
  refine hG 5 _ _ _ _ _ ?_
  refine ⟨fun h => absurd h (by decide), fun _ => clI (c_X3_memberOf hl M o hT (show 0 < 4 by decide)) (by decide) (by decide) ⟨hm 0 (by decide), ?_⟩⟩
  refine hG 5 _ _ _ _ _ ?_
  refine ⟨fun h => absurd h (by decide), fun _ => clI (c_X3_memberOf hl M o hT (show 1 < 4 by decide)) (by decide) (by decide) ⟨hm 1 (by decide), ?_⟩⟩
  refine hG 5 _ _ _ _ _ ?_
  refine ⟨fun h => absurd h (by decide), fun _ => clI (c_X3_memberOf hl M o hT (show 2 < 4 by decide)) (by decide) (by decide) ⟨hm 2 (by decide), ?_⟩⟩
  refine hG 5 _ _ _ _ _ ?_
  refine ⟨fun h => absurd h (by decide), fun _ => clI (c_X3_memberOf hl M o hT (show 3 < 4 by decide)) (by decide) (by decide) ⟨hm 3 (by decide), ?_⟩⟩
  refine hG 5 _ _ _ _ _ ?_
  refine ⟨fun _ => ?_, fun h => absurd (by decide) h⟩
  refine hG 20 _ _ _ _ _ ?_
  exact ⟨⟨rfl, rfl, rfl⟩, Nat.le_refl _⟩
