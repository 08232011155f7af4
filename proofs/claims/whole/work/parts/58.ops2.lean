/-! THE TWO SIDES: teams, the ball and the riders. -/
theorem in_mono {x : Int32} {a b : Nat} (h : vp_in x a) (hab : a ≤ b) (hb : b < 2 ^ 31) : vp_in x b := by
  obtain ⟨j, hj, rfl⟩ := vp_in_of h (by omega)
  exact vp_in_nI (by omega) hb
theorem TouI.mono {M : Mem} {t t' : Nat} {E W H L : List Int32} (h : TouI M t E W H L) (ht : t ≤ t') (h8 : t' ≤ 8) : TouI M t' E W H L := by
  obtain ⟨a1, a2, a3, a4, a5, a6, a7, a8, a9, a10, a11, a12, a13, a14, a15, a16, a17, a18⟩ := h
  exact ⟨a1, a2, a3, a4, a5, a6, a7, a8, a9, a10, a11, a12, a13, a14, a15, a16, fun x hx => in_mono (a17 x hx) ht (by omega), a18⟩
theorem op_team {l : Launch} (hl : l.stackTraces = false) (M : Mem) (o : Ou) {c : Nat} (a b d f : Int32) (h : Inv c M) : OpV l 181 [.ref 0, .int a, .int b, .int d, .int f, .ref 63] 127 [.ref 11, .int a, .int b, .int d, .int f] c M o Int32.toInt64 := by
  have h' := h
  obtain ⟨n, t, e, m, dy, r, pl, rd, E, W, H, L, h1, h2, h3, h4, h5⟩ := h
  obtain ⟨a1, a2, a3, a4, a5, a6, a7, a8, a9, a10, a11⟩ := h1
  have hkk : kTe a b d f n t ≤ 2 := by unfold kTe; exact cond2 (ite2 (by decide) (by decide)) (by decide)
  have hz : ∀ p, p < 32 → bz (M 13 p) := fun p hp => by
    rcases a11 p hp with q | q
    · rw [q.1]; exact bz0
    · rw [q.1]; exact bz1
  have htk : ∀ p, p < 32 → cTk M p = mTk M p := by
    intro p hp
    unfold cTk mTk
    rcases a11 p hp with q | q
    · rw [q.1, q.2]; rfl
    · rw [q.1, decide_eq_true q.2]; rfl
  refine op_mk (M1' := cond (twF (cTk M) a b d f) (thr M 0) (mTeam (thr (cTeam M t a b d f) 0) t a b d f)) hkk (w_team hl M o a b d f (by decide) (c_X7_team hl M o a b d f a3 a1 a4 a2 hz)) (fun hk => ?_) (fun hk => ⟨fun o => ⟨_, _, c_X8_team hl M o a b d f a5 a1 a6 a2⟩, inv_thr h'⟩)
  unfold kTe at hk
  obtain ⟨hin, ht⟩ := cond0 hk (by decide)
  have ht := (ite0 ht (by decide)).1
  simp only [Bool.and_eq_true] at hin
  have ia := inB_e hin.1.1.1
  have ib := inB_e hin.1.1.2
  have id := inB_e hin.1.2
  have jf := inB_e hin.2
  have cl : ∀ {v : Int32}, vp_in v n → v.toNatClampNeg < 32 := fun hv => by
    obtain ⟨j, hj, rfl⟩ := vp_in_of hv (by omega)
    rw [nI_clamp (by omega)]; omega
  have htw : twF (cTk M) a b d f = twF (mTk M) a b d f := by
    unfold twF fB
    rw [htk _ (cl ia), htk _ (cl ib), htk _ (cl id), htk _ (cl jf)]
  cases hb : twF (cTk M) a b d f with
  | true =>
    refine ⟨fun o => ?_, inv_thr h', rfl⟩
    have := c_X8_team hl M o a b d f a5 a1 a6 a2
    rw [← htw, hb] at this
    exact this
  | false =>
    refine ⟨fun o => ?_, ?_, rfl⟩
    · have := c_X8_team hl (cTeam M t a b d f) o a b d f (n := n) (t := t) a5 a1 a6 a2
      rw [show mTk (cTeam M t a b d f) = mTk M from rfl, ← htw, hb] at this
      exact this
    · refine ⟨n, t + 1, e, m, dy, r, pl, rd, E, W, H, L, ⟨a1, by omega, a3, rfl, a5, rfl, a7, a8, ?_, fun j hj => ?_, fun p hp => ?_⟩, h2, TouI.mono (t := t) h3 (by omega) (by omega), StaI.up (c := c) h4, h5⟩
      · show mem4 (M 14) t a b d f = mem4 (M 37) t a b d f
        rw [a9]
      · show vp_in (mem4 (M 14) t a b d f j) n
        obtain ⟨m0, m1, m2, m3⟩ := mem4_at (M 14) t a b d f
        by_cases w : j < 4 * t
        · unfold mem4
          rw [pk_un (by omega), pk_un (by omega), pk_un (by omega), pk_un (by omega)]
          exact a10 j w
        · rcases (show j = 4 * t ∨ j = 4 * t + 1 ∨ j = 4 * t + 2 ∨ j = 4 * t + 3 by omega) with w | w | w | w
          · rw [w, m0]; exact ia
          · rw [w, m1]; exact ib
          · rw [w, m2]; exact id
          · rw [w, m3]; exact jf
      · show (put4 (M 13) 1 a b d f p = 0 ∧ put4 (M 36) (nI t) a b d f p = -1) ∨ (put4 (M 13) 1 a b d f p = 1 ∧ 0 ≤ put4 (M 36) (nI t) a b d f p)
        unfold put4 upd
        have h0 : 0 ≤ nI t := nI_pos' (by omega)
        by_cases w1 : p = f.toNatClampNeg
        · rw [if_pos w1, if_pos w1]; exact Or.inr ⟨rfl, h0⟩
        rw [if_neg w1, if_neg w1]
        by_cases w2 : p = d.toNatClampNeg
        · rw [if_pos w2, if_pos w2]; exact Or.inr ⟨rfl, h0⟩
        rw [if_neg w2, if_neg w2]
        by_cases w3 : p = b.toNatClampNeg
        · rw [if_pos w3, if_pos w3]; exact Or.inr ⟨rfl, h0⟩
        rw [if_neg w3, if_neg w3]
        by_cases w4 : p = a.toNatClampNeg
        · rw [if_pos w4, if_pos w4]; exact Or.inr ⟨rfl, h0⟩
        rw [if_neg w4, if_neg w4]
        exact a11 p hp
theorem op_ball {l : Launch} (hl : l.stackTraces = false) (M : Mem) (o : Ou) {c : Nat} (x y dx dy : Int32) (h : Inv c M) : OpN l 196 [.ref 0, .int x, .int y, .int dx, .int dy] 164 [.ref 11, .int x, .int y, .int dx, .int dy] c M o := by
  have h' := h
  obtain ⟨n, t, e, m, dd, r, pl, rd, E, W, H, L, h1, h2, h3, h4, h5⟩ := h
  have hkk : kBa x y dx dy ≤ 2 := by unfold kBa; exact cond2 (by decide) (by decide)
  refine ⟨kBa x y dx dy, _, hkk, w_ball hl M o x y dx dy (by decide) (by unfold kBa; cases lnF x y dx dy <;> decide) (c_X7_ball hl M o x y dx dy), fun v M1 o1 q => ?_⟩
  obtain ⟨q1, q2, q3⟩ := q
  refine ⟨q1, _, c_X8_ball hl M1 o1 x y dx dy, fun v2 M2 o2 q => ?_⟩
  obtain ⟨w1, w2, w3⟩ := q
  refine ⟨w1, w3, ?_⟩
  unfold eF at q2
  by_cases hk : kBa x y dx dy = 0
  · rw [if_pos hk] at q2 w2
    rw [w2, q2, hk]
    refine ⟨rfl, n, t, e, m, dd, 0, pl, rd, E, W, H, L, h1, h2, h3, StaI.up (c := c) h4, ⟨by decide, rfl, rfl, h5.2.2.2.1, h5.2.2.2.2.1, h5.2.2.2.2.2.1, h5.2.2.2.2.2.2.1, h5.2.2.2.2.2.2.2.1, rfl, rfl, rfl, rfl, bz1, rfl, fun i hi => absurd hi (Nat.not_lt_zero _)⟩⟩
  · rw [if_neg hk] at q2 w2
    rw [w2, q2]
    exact ⟨mset_same _ _ _ _, inv_thr h'⟩
theorem op_rider {l : Launch} (hl : l.stackTraces = false) (M : Mem) (o : Ou) {c : Nat} (s x y dx dy : Int32) (h : Inv c M) : OpV l 197 [.ref 0, .int s, .int x, .int y, .int dx, .int dy, .ref 63] 165 [.ref 11, .int s, .int x, .int y, .int dx, .int dy] c M o Int32.toInt64 := by
  have h' := h
  obtain ⟨n, t, e, m, dd, r, pl, rd, E, W, H, L, h1, h2, h3, h4, h5⟩ := h
  obtain ⟨l1, l2, l3, l4, l5, l6, l7, l8, l9, l10, l11, l12, l13, l14, l15⟩ := h5
  have hkk : kRd s x y dx dy (M 10 6) r ≤ 2 := by unfold kRd; exact cond2 (ite2 (by decide) (by decide)) (by decide)
  refine op_mk (M1' := mRd (thr (cRd M r s x y dx dy) 0) r s x y dx dy) hkk (w_rider hl M o s x y dx dy (by decide) (c_X7_rider hl M o s x y dx dy l2 l1 rfl l13)) (fun hk => ⟨fun o => c_X8_rider hl (cRd M r s x y dx dy) o s x y dx dy l3 l1 l14.symm l13, ?_, rfl⟩) (fun hk => ⟨fun o => ⟨_, _, c_X8_rider hl M o s x y dx dy l3 l1 l14.symm l13⟩, inv_thr h'⟩)
  unfold kRd at hk
  obtain ⟨hin, hr⟩ := cond0 hk (by decide)
  simp only [Bool.and_eq_true] at hin
  have hr8 : r < 8 := by
    by_cases w : M 10 6 = 0 ∨ ¬ r < 8
    · rw [if_pos w] at hr; exact absurd hr (by decide)
    · exact Classical.byContradiction (fun z => w (Or.inr z))
  refine ⟨n, t, e, m, dd, r + 1, pl, rd, E, W, H, L, h1, h2, h3, StaI.up (c := c) h4, ⟨by omega, rfl, rfl, ?_, ?_, ?_, ?_, ?_, l9, l10, l11, l12, l13, l14, fun i hi => ?_⟩⟩
  · show upd (M 30) r s = upd (M 58) r s
    rw [l4]
  · show upd (M 31) r x = upd (M 59) r x
    rw [l5]
  · show upd (M 32) r y = upd (M 60) r y
    rw [l6]
  · show upd (M 33) r dx = upd (M 61) r dx
    rw [l7]
  · show upd (M 34) r dy = upd (M 62) r dy
    rw [l8]
  · show lnF (upd (M 31) r x i) (upd (M 32) r y i) (upd (M 33) r dx i) (upd (M 34) r dy i) = true
    by_cases w : i = r
    · subst w; rw [pk_us, pk_us, pk_us, pk_us]; exact hin.2
    · rw [pk_un w, pk_un w, pk_un w, pk_un w]; exact l15 i (by omega)
