/-! CONTRACTS: a team is made. -/
def dB (a b c d : Int32) : Bool := decide (a = b) || decide (a = c) || decide (a = d) || decide (b = c) || decide (b = d) || decide (c = d)
def fB (f : Nat → Bool) (a b c d : Int32) : Bool := f a.toNatClampNeg || f b.toNatClampNeg || f c.toNatClampNeg || f d.toNatClampNeg
def twF (f : Nat → Bool) (a b c d : Int32) : Bool := dB a b c d || fB f a b c d
def kTe (a b c d : Int32) (n t : Nat) : Nat := cond (inB a n && inB b n && inB c n && inB d n) (if t < 8 then 0 else 2) 1
def mem4 (f : Nat → Int32) (t : Nat) (a b c d : Int32) : Nat → Int32 := upd (upd (upd (upd f (4 * t) a) (4 * t + 1) b) (4 * t + 2) c) (4 * t + 3) d
def put4 (f : Nat → Int32) (x : Int32) (a b c d : Int32) : Nat → Int32 := upd (upd (upd (upd f a.toNatClampNeg x) b.toNatClampNeg x) c.toNatClampNeg x) d.toNatClampNeg x
def cTk (M : Mem) (p : Nat) : Bool := !decide (M 13 p = 0)
def mTk (M : Mem) (p : Nat) : Bool := decide (0 ≤ M 36 p)
def cTeam (M : Mem) (t : Nat) (a b c d : Int32) : Mem := mset (mrow (mrow M 14 (mem4 (M 14) t a b c d)) 13 (put4 (M 13) 1 a b c d)) 1 4 (nI (t + 1))
def mTeam (M : Mem) (t : Nat) (a b c d : Int32) : Mem := mset (mrow (mrow M 37 (mem4 (M 37) t a b c d)) 36 (put4 (M 36) (nI t) a b c d)) 11 5 (nI (t + 1))
theorem c_X3_addTeam {l : Launch} (hl : l.stackTraces = false) (M : Mem) (o : Ou) {t : Nat} (a b c d : Int32) (hf : M 1 4 = nI t) (ht : t < 8) (ha : vp_in a 32) (hb : vp_in b 32) (hc : vp_in c 32) (hd : vp_in d 32) : Ct l 9 0 40 [.ref 1, .int a, .int b, .int c, .int d] M o (rI (nI t) (cTeam M t a b c d) o) nX := by
  have e4 : M 1 4 * 4 = nI (4 * t) := by rw [hf, i4, pk_mul, Nat.mul_comm]
  have e5 : M 1 4 * 4 + 1 = nI (4 * t + 1) := by rw [e4, nI_1]
  have e6 : M 1 4 * 4 + 2 = nI (4 * t + 2) := by rw [e4, i2, nI_add]
  have e7 : M 1 4 * 4 + 3 = nI (4 * t + 3) := by rw [e4, i3, nI_add]
  refine ct_plain hl ok40 (by decide) (by decide) rfl rfl (by decide) (Nat.le_of_ble_eq_true rfl) (fun G hG => hG 0 _ _ _ _ _ ?_)
  refine clV (c_X3_seat hl M o _ _ (by rw [e4]; exact vp_in_nI (show 4 * t < 32 by omega) (by decide)) ha) (by decide) (by decide) ?_
  refine clV (c_X3_seat hl _ o _ _ (by rw [e5]; exact vp_in_nI (show 4 * t + 1 < 32 by omega) (by decide)) hb) (by decide) (by decide) ?_
  refine clV (c_X3_seat hl _ o _ _ (by rw [e6]; exact vp_in_nI (show 4 * t + 2 < 32 by omega) (by decide)) hc) (by decide) (by decide) ?_
  refine clV (c_X3_seat hl _ o _ _ (by rw [e7]; exact vp_in_nI (show 4 * t + 3 < 32 by omega) (by decide)) hd) (by decide) (by decide) ?_
  refine ⟨⟨?_, ?_, rfl⟩, Nat.le_refl _⟩
  · show some (Value.int (M 1 4 + 1 - 1)) = _
    rw [hf, nI_1, nI_pred]
  · rw [e5, e6, e7, e4, nI_clamp (show 4 * t < 2 ^ 31 by omega), nI_clamp (show 4 * t + 1 < 2 ^ 31 by omega), nI_clamp (show 4 * t + 2 < 2 ^ 31 by omega), nI_clamp (show 4 * t + 3 < 2 ^ 31 by omega)]
    unfold cTeam
    rw [← nI_1, ← hf]
    funext x
    by_cases h1 : x = 14
    · subst h1; rfl
    by_cases h2 : x = 13
    · subst h2; rfl
    by_cases h3 : x = 1
    · subst h3; rfl
    · simp [mset, mrow, h1, h2, h3]
theorem in32 {v : Int32} {n : Nat} (hn : n ≤ 32) (h : vp_in v n) : vp_in v 32 := by
  obtain ⟨j, hj, rfl⟩ := vp_in_of h (by omega)
  exact vp_in_nI (by omega) (by decide)
theorem c_X7_team {l : Launch} (hl : l.stackTraces = false) (M : Mem) (o : Ou) {n t : Nat} (a b c d : Int32) (hf : M 1 3 = nI n) (hn : n ≤ 32) (ht : M 1 4 = nI t) (h8 : t ≤ 8) (hz : ∀ p, p < 32 → bz (M 13 p)) : Ct l 20 8 87 [.ref 0, .int a, .int b, .int c, .int d] M o (rF (kTe a b c d n t) (cond (twF (cTk M) a b c d) (-1) (nI t)) (eF (kTe a b c d n t) (cond (twF (cTk M) a b c d) M (cTeam M t a b c d)) M) o) (xF IOB ISE (kTe a b c d n t) (eF (kTe a b c d n t) (cond (twF (cTk M) a b c d) M (cTeam M t a b c d)) M) o) := by
  refine ct_plain hl ok87 (by decide) (by decide) rfl rfl (by decide) (Nat.le_of_ble_eq_true rfl) (fun G hG => hG 0 _ _ _ _ _ ?_)
  have ex1 : ¬ (vp_in a n ∧ vp_in b n ∧ vp_in c n ∧ vp_in d n) → kTe a b c d n t = 1 := by
    intro h
    unfold kTe
    have : (inB a n && inB b n && inB c n && inB d n) = false := by
      rw [Bool.eq_false_iff]
      intro q
      simp only [Bool.and_eq_true] at q
      exact h ⟨inB_e q.1.1.1, inB_e q.1.1.2, inB_e q.1.2, inB_e q.2⟩
    rw [this]; rfl
  refine clR (c_X7_requirePlayer hl M o a hf (by omega)) (by decide) (by decide) (fun ha => ?_) (fun ha => ⟨⟨Or.inl ⟨ex1 (fun q => ha q.1), rfl⟩, eF1 (ex1 (fun q => ha q.1)), rfl⟩, by decide⟩)
  refine clR (c_X7_requirePlayer hl M o b hf (by omega)) (by decide) (by decide) (fun hb => ?_) (fun ha => ⟨⟨Or.inl ⟨ex1 (fun q => ha q.2.1), rfl⟩, eF1 (ex1 (fun q => ha q.2.1)), rfl⟩, by decide⟩)
  refine clR (c_X7_requirePlayer hl M o c hf (by omega)) (by decide) (by decide) (fun hc => ?_) (fun ha => ⟨⟨Or.inl ⟨ex1 (fun q => ha q.2.2.1), rfl⟩, eF1 (ex1 (fun q => ha q.2.2.1)), rfl⟩, by decide⟩)
  refine clR (c_X7_requirePlayer hl M o d hf (by omega)) (by decide) (by decide) (fun hd => ?_) (fun ha => ⟨⟨Or.inl ⟨ex1 (fun q => ha q.2.2.2), rfl⟩, eF1 (ex1 (fun q => ha q.2.2.2)), rfl⟩, by decide⟩)
  have hin : (inB a n && inB b n && inB c n && inB d n) = true := by rw [inB_t ha, inB_t hb, inB_t hc, inB_t hd]; rfl
  have ia := in32 hn ha
  have ib := in32 hn hb
  have ic := in32 hn hc
  have id := in32 hn hd
  have lz : ∀ {v : Int32}, vp_in v 32 → bz (M 13 v.toNatClampNeg) := by
    intro v hv
    obtain ⟨j, hj, rfl⟩ := vp_in_of hv (by decide)
    rw [nI_clamp (by omega)]
    exact hz j hj
  refine clI (c_X3_teamsAreFull hl M o) (by decide) (by decide) ⟨fun h => ?_, fun h => ?_⟩
  · have h8 : t < 8 := by
      rcases Nat.lt_or_ge t 8 with q | q
      · exact q
      · rw [ht, if_neg (show ¬ nI t < 8 from nI_nlt (a := t) (b := 8) q (by omega))] at h
        exact absurd h (by decide)
    have hk : kTe a b c d n t = 0 := by unfold kTe; rw [hin, if_pos h8]; rfl
    have no : twF (cTk M) a b c d = true → G 65 [some (.ref 0), some (.int a), some (.int b), some (.int c), some (.int d), some (.int (cond (dB a b c d) 1 0))] [] M o 4 := by
      intro h
      refine hG 65 _ _ _ _ _ ?_
      rw [h]
      exact ⟨⟨hk, rfl, eF0 hk, rfl⟩, by decide⟩
    have fl : ∀ {v : Int32}, (¬ M 13 v.toNatClampNeg = 0) → cTk M v.toNatClampNeg = true := by
      intro v h
      unfold cTk; rw [decide_eq_false h]; rfl
    have ff : ∀ {v : Int32}, (M 13 v.toNatClampNeg = 0) → cTk M v.toNatClampNeg = false := by
      intro v h
      unfold cTk; rw [decide_eq_true h]; rfl
    have k43 : ∀ x, x = (cond (dB a b c d) 1 0 : Int32) → XS l 20 8 e87 (rF (kTe a b c d n t) (cond (twF (cTk M) a b c d) (-1) (nI t)) (eF (kTe a b c d n t) (cond (twF (cTk M) a b c d) M (cTeam M t a b c d)) M) o) (xF IOB ISE (kTe a b c d n t) (eF (kTe a b c d n t) (cond (twF (cTk M) a b c d) M (cTeam M t a b c d)) M) o) G 42 [some (.ref 0), some (.int a), some (.int b), some (.int c), some (.int d), none] [.int x] M o 4 := by
      intro x hx
      subst hx
      refine ⟨fun h1 => no (by unfold twF; rw [cond_n h1]; rfl), fun h1 => ?_⟩
      refine clI (c_X3_inTeam hl M o a ia (lz ia)) (by decide) (by decide) ⟨fun h2 => no (by unfold twF fB; rw [fl h2]; simp), fun h2 => ?_⟩
      refine clI (c_X3_inTeam hl M o b ib (lz ib)) (by decide) (by decide) ⟨fun h3 => no (by unfold twF fB; rw [fl h3]; simp), fun h3 => ?_⟩
      refine clI (c_X3_inTeam hl M o c ic (lz ic)) (by decide) (by decide) ⟨fun h4 => no (by unfold twF fB; rw [fl h4]; simp), fun h4 => ?_⟩
      refine clI (c_X3_inTeam hl M o d id (lz id)) (by decide) (by decide) ⟨fun h5 => ?_, fun h5 => ?_⟩
      · refine hG 67 _ _ _ _ _ ?_
        have : twF (cTk M) a b c d = false := by unfold twF fB; rw [cond_z h1, ff h2, ff h3, ff h4, ff h5]; rfl
        rw [this]
        exact clI (c_X3_addTeam hl M o a b c d ht h8 ia ib ic id) (by decide) (by decide) ⟨⟨hk, rfl, eF0 hk, rfl⟩, by decide⟩
      · have : twF (cTk M) a b c d = true := by unfold twF fB; rw [fl h5]; simp
        rw [this]
        exact ⟨⟨hk, rfl, eF0 hk, rfl⟩, by decide⟩
    have yes : dB a b c d = true → G 39 [some (.ref 0), some (.int a), some (.int b), some (.int c), some (.int d), none] [] M o 4 := by
      intro h
      refine hG 39 _ _ _ _ _ ?_
      refine hG 42 _ _ _ _ _ ?_
      exact k43 1 (by rw [h]; rfl)
    refine hG 21 _ _ _ _ _ ?_
    refine ⟨fun h => yes (by unfold dB; simp [h]), fun h1 => ⟨fun h => yes (by unfold dB; simp [h]), fun h2 => ⟨fun h => yes (by unfold dB; simp [h]), fun h3 => ⟨fun h => yes (by unfold dB; simp [h]), fun h4 => ⟨fun h => yes (by unfold dB; simp [h]), fun h5 => ⟨fun h6 => ?_, fun h => ?_⟩⟩⟩⟩⟩⟩
    · refine hG 41 _ _ _ _ _ ?_
      exact k43 0 (by unfold dB; simp [h1, h2, h3, h4, h5, h6])
    · refine hG 42 _ _ _ _ _ ?_
      exact k43 1 (by unfold dB; simp [h])
  · have h8 : ¬ t < 8 := fun q => h (by rw [ht, if_pos (show nI t < 8 from nI_lt (a := t) (b := 8) q (by omega))])
    have hk : kTe a b c d n t = 2 := by unfold kTe; rw [hin, if_neg h8]; rfl
    exact ⟨⟨Or.inr ⟨hk, rfl⟩, eF2 hk, rfl⟩, by decide⟩
theorem mem4_at (f : Nat → Int32) (t : Nat) (a b c d : Int32) : mem4 f t a b c d (4 * t) = a ∧ mem4 f t a b c d (4 * t + 1) = b ∧ mem4 f t a b c d (4 * t + 2) = c ∧ mem4 f t a b c d (4 * t + 3) = d := by
  unfold mem4 upd
  refine ⟨?_, ?_, ?_, ?_⟩
  · simp
  · simp
  · simp
  · simp
theorem c_X8_team {l : Launch} (hl : l.stackTraces = false) (M : Mem) (o : Ou) {n t : Nat} (a b c d : Int32) (hf : M 11 3 = nI n) (hn : n ≤ 32) (ht : M 11 5 = nI t) (h8 : t ≤ 8) : Ct l 20 0 127 [.ref 11, .int a, .int b, .int c, .int d] M o (mF (kTe a b c d n t) (cond (twF (mTk M) a b c d) (-1) (nI t)) (cond (twF (mTk M) a b c d) (thr M 0) (mTeam (thr M 0) t a b c d)) M o) nX := by
  refine ct_plain hl ok127 (by decide) (by decide) rfl rfl (by decide) (Nat.le_of_ble_eq_true rfl) (fun G hG => hG 0 _ _ _ _ _ ?_)
  have hp : ∀ v, Ct l 8 0 124 [.ref 11, .int v] (mset M 11 0 0) o (rI (cond (inB v n) 1 0) (mset M 11 0 0) o) nX := fun v => c_X8_isPlayer hl _ o v hf (by omega)
  have no : (inB a n && inB b n && inB c n && inB d n) = false → G 20 [some (.ref 11), some (.int a), some (.int b), some (.int c), some (.int d), none] [.ref 11] (mset M 11 0 0) o 0 := by
    intro h
    have hk : kTe a b c d n t = 1 := by unfold kTe; rw [h]; rfl
    refine hG 20 _ _ _ _ _ ?_
    refine hG 23 _ _ _ _ _ ?_
    refine clI (c_X8_bad1 hl _ o _) (by decide) (by decide) ⟨fun _ => ?_, fun q => absurd q (by decide)⟩
    refine hG 37 _ _ _ _ _ ?_
    exact ⟨mF1 hk (by decide) 0, Nat.le_refl _⟩
  refine clI (hp a) (by decide) (by decide) ⟨fun h => no (by rw [cond_z h]; rfl), fun ha => ?_⟩
  refine clI (hp b) (by decide) (by decide) ⟨fun h => no (by rw [cond_z h]; simp), fun hb => ?_⟩
  refine clI (hp c) (by decide) (by decide) ⟨fun h => no (by rw [cond_z h]; simp), fun hc => ?_⟩
  refine clI (hp d) (by decide) (by decide) ⟨fun hd => ?_, fun h => ?_⟩
  rotate_left
  · have hk : kTe a b c d n t = 1 := by unfold kTe; rw [cond_z h]; simp
    refine hG 23 _ _ _ _ _ ?_
    refine clI (c_X8_bad1 hl _ o _) (by decide) (by decide) ⟨fun _ => ?_, fun q => absurd q (by decide)⟩
    refine hG 37 _ _ _ _ _ ?_
    exact ⟨mF1 hk (by decide) 0, Nat.le_refl _⟩
  have ha := cond_n ha
  have hb := cond_n hb
  have hc := cond_n hc
  have hd := cond_n hd
  have hin : (inB a n && inB b n && inB c n && inB d n) = true := by rw [ha, hb, hc, hd]; rfl
  have ia := in32 hn (inB_e ha)
  have ib := in32 hn (inB_e hb)
  have ic := in32 hn (inB_e hc)
  have id := in32 hn (inB_e hd)
  refine hG 22 _ _ _ _ _ ?_
  refine clI (c_X8_bad0 hl _ o _) (by decide) (by decide) ⟨fun q => absurd rfl q, fun _ => ⟨fun h => ?_, fun h => ?_⟩⟩
  rotate_left
  · have h : M 11 5 = 8 := h
    have h8 : ¬ t < 8 := fun q => nI_ge (a := t) (b := 8) q (by decide) (by rw [← ht, h]; decide)
    have hk : kTe a b c d n t = 2 := by unfold kTe; rw [hin, if_neg h8]; rfl
    refine hG 34 _ _ _ _ _ ?_
    refine clI (c_X8_bad1 hl _ o _) (by decide) (by decide) ⟨fun q => absurd q (by decide), fun _ => ?_⟩
    exact ⟨mF1 hk (by decide) 0, Nat.le_refl _⟩
  have h : ¬ M 11 5 = 8 := h
  have h8 : t < 8 := by
    rcases Nat.lt_or_ge t 8 with q | q
    · exact q
    · exact absurd (by rw [ht, show t = 8 by omega]; rfl) h
  have hk : kTe a b c d n t = 0 := by unfold kTe; rw [hin, if_pos h8]; rfl
  refine hG 33 _ _ _ _ _ ?_
  refine clI (c_X8_bad0 hl _ o _) (by decide) (by decide) ⟨fun _ => ?_, fun q => absurd rfl q⟩
  have yes : dB a b c d = true → G 57 [some (.ref 11), some (.int a), some (.int b), some (.int c), some (.int d), none] [] (mset M 11 0 0) o 0 := by
    intro h
    have : twF (mTk M) a b c d = true := by unfold twF; rw [h]; rfl
    refine hG 57 _ _ _ _ _ ?_
    rw [this]
    exact ⟨mF0 hk, Nat.le_refl _⟩
  have yes2 : fB (mTk M) a b c d = true → G 79 [some (.ref 11), some (.int a), some (.int b), some (.int c), some (.int d), none] [] (mset M 11 0 0) o 0 := by
    intro h
    have : twF (mTk M) a b c d = true := by unfold twF; rw [h]; simp
    refine hG 79 _ _ _ _ _ ?_
    rw [this]
    exact ⟨mF0 hk, Nat.le_refl _⟩
  have ft : ∀ {v : Int32}, 0 ≤ M 36 v.toNatClampNeg → mTk M v.toNatClampNeg = true := fun h => decide_eq_true h
  have ff : ∀ {v : Int32}, ¬ 0 ≤ M 36 v.toNatClampNeg → mTk M v.toNatClampNeg = false := fun h => decide_eq_false h
  have last : dB a b c d = false → G 59 [some (.ref 11), some (.int a), some (.int b), some (.int c), some (.int d), none] [] (mset M 11 0 0) o 0 := by
    intro hdb
    refine hG 59 _ _ _ _ _ ?_
    refine ⟨ia, fun h => yes2 (by unfold fB; rw [ft h]; rfl), fun h1 => ⟨ib, fun h => yes2 (by unfold fB; rw [ft h]; simp), fun h2 => ⟨ic, fun h => yes2 (by unfold fB; rw [ft h]; simp), fun h3 => ⟨id, fun h4 => ?_, fun h => ?_⟩⟩⟩⟩
    rotate_left
    · have h : 0 ≤ M 36 d.toNatClampNeg := Int32.not_lt.mp h
      have : twF (mTk M) a b c d = true := by unfold twF fB; rw [ft h]; simp
      rw [this]
      exact ⟨mF0 hk, Nat.le_refl _⟩
    have h4 : ¬ 0 ≤ M 36 d.toNatClampNeg := Int32.not_le.mpr h4
    have htw : twF (mTk M) a b c d = false := by unfold twF fB; rw [hdb, ff h1, ff h2, ff h3, ff h4]; rfl
    have e4 : (4 : Int32) * nI t = nI (4 * t) := by rw [i4, pk_mul]
    have q0 : (4 : Int32) * nI t = nI (4 * t + 0) := e4
    have q1 : (4 : Int32) * nI t + 1 = nI (4 * t + 1) := by rw [e4, nI_1]
    have q2 : (4 : Int32) * nI t + 2 = nI (4 * t + 2) := by rw [e4, i2, nI_add]
    have q3 : (4 : Int32) * nI t + 3 = nI (4 * t + 3) := by rw [e4, i3, nI_add]
    have inq : ∀ j, j < 4 → vp_in (nI (4 * t + j)) 32 := fun j hj => vp_in_nI (by omega) (by decide)
    refine hG 81 _ _ _ _ _ ?_
    have ht1 : mset M 11 0 0 11 5 = nI t := ht
    refine ⟨by rw [ht1, q0]; exact inq 0 (by decide), by rw [show (mset (mset M 11 0 0) 37 _ a) 11 5 = nI t from ht, q1]; exact inq 1 (by decide), by rw [show (mset (mset (mset M 11 0 0) 37 _ a) 37 _ b) 11 5 = nI t from ht, q2]; exact inq 2 (by decide), by rw [show (mset (mset (mset (mset M 11 0 0) 37 _ a) 37 _ b) 37 _ c) 11 5 = nI t from ht, q3]; exact inq 3 (by decide), ?_⟩
    have hm4 := mem4_at (M 37) t a b c d
    generalize hm : mem4 (M 37) t a b c d = m4 at hm4
    obtain ⟨m0, m1, m2, m3⟩ := hm4
    have hmi : ∀ j, j < 4 → vp_in (m4 (4 * t + j)) 32 := by
      intro j hj
      rcases (show j = 0 ∨ j = 1 ∨ j = 2 ∨ j = 3 by omega) with rfl | rfl | rfl | rfl
      · rw [Nat.add_zero, m0]; exact ia
      · rw [m1]; exact ib
      · rw [m2]; exact ic
      · rw [m3]; exact id
    have st : ∀ (j : Nat) (g : Nat → Int32), j < 4 → G 122 [some (.ref 11), some (.int a), some (.int b), some (.int c), some (.int d), some (.int (nI (j + 1)))] [] (mrow (mrow (thr M 0) 37 m4) 36 (upd g (m4 (4 * t + j)).toNatClampNeg (nI t))) o 0 → G 122 [some (.ref 11), some (.int a), some (.int b), some (.int c), some (.int d), some (.int (nI j))] [] (mrow (mrow (thr M 0) 37 m4) 36 g) o 0 := by
      intro j g hj h
      have eq : 4 * mrow (mrow (thr M 0) 37 m4) 36 g 11 5 + nI j = nI (4 * t + j) := by
        rw [show mrow (mrow (thr M 0) 37 m4) 36 g 11 5 = nI t from ht, e4, nI_add]
      refine hG 122 _ _ _ _ _ ?_
      refine ⟨fun h => absurd h (nI_ge (a := j) (b := 4) hj (by decide)), fun _ => ⟨by rw [eq]; exact inq j hj, ?_⟩⟩
      rw [eq, nI_clamp (by omega)]
      refine ⟨hmi j hj, ?_⟩
      rw [mset_mrow, show mrow (mrow (thr M 0) 37 m4) 36 g 11 5 = nI t from ht]
      rw [← nI_1] at h
      exact h
    have go : G 122 [some (.ref 11), some (.int a), some (.int b), some (.int c), some (.int d), some (.int (nI 0))] [] (mrow (mrow (thr M 0) 37 m4) 36 (M 36)) o 0 := by
      refine st 0 _ (by decide) (st 1 _ (by decide) (st 2 _ (by decide) (st 3 _ (by decide) ?_)))
      rw [show m4 (4 * t + 0) = a from m0, m1, m2, m3]
      refine hG 122 _ _ _ _ _ ?_
      refine ⟨fun _ => ?_, fun h => absurd (by decide) h⟩
      refine hG 141 _ _ _ _ _ ?_
      rw [htw]
      refine ⟨mF0' hk (show M 11 5 + 1 - 1 = nI t by rw [ht, nI_1, nI_pred]) ?_, Nat.le_refl _⟩
      show mset _ 11 5 (M 11 5 + 1) = mTeam (thr M 0) t a b c d
      unfold mTeam
      rw [ht, nI_1, show thr M 0 37 = M 37 from rfl, hm]
      rfl
    refine Eq.mp (congrArg (fun X => G 122 _ [] X o 0) ?_) go
    have w0 : (4 * M 11 5).toNatClampNeg = 4 * t := by rw [ht, e4, nI_clamp (by omega)]
    have w1 : (4 * M 11 5 + 1).toNatClampNeg = 4 * t + 1 := by rw [ht, q1, nI_clamp (by omega)]
    have w2 : (4 * M 11 5 + 2).toNatClampNeg = 4 * t + 2 := by rw [ht, q2, nI_clamp (by omega)]
    have w3 : (4 * M 11 5 + 3).toNatClampNeg = 4 * t + 3 := by rw [ht, q3, nI_clamp (by omega)]
    show _ = mset (mset (mset (mset (thr M 0) 37 (4 * M 11 5).toNatClampNeg a) 37 (4 * M 11 5 + 1).toNatClampNeg b) 37 (4 * M 11 5 + 2).toNatClampNeg c) 37 (4 * M 11 5 + 3).toNatClampNeg d
    rw [w0, w1, w2, w3, ← hm]
    funext x
    by_cases h1 : x = 37
    · subst h1; rfl
    by_cases h2 : x = 36
    · subst h2; rfl
    · simp [mset, mrow, h1, h2]
  refine hG 39 _ _ _ _ _ ?_
  refine ⟨fun h => yes (by unfold dB; simp [h]), fun h1 => ⟨fun h => yes (by unfold dB; simp [h]), fun h2 => ⟨fun h => yes (by unfold dB; simp [h]), fun h3 => ⟨fun h => yes (by unfold dB; simp [h]), fun h4 => ⟨fun h => yes (by unfold dB; simp [h]), fun h5 => ⟨fun h6 => last ?_, fun h => ?_⟩⟩⟩⟩⟩⟩
  · unfold dB; simp [h1, h2, h3, h4, h5, h6]
  · have : twF (mTk M) a b c d = true := by unfold twF dB; simp [h]
    rw [this]
    exact ⟨mF0 hk, Nat.le_refl _⟩
