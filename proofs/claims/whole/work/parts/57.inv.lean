/-! THE TWO SIDES: what holds between calls. -/
def RosI (M : Mem) (n t : Nat) : Prop := n ≤ 32 ∧ t ≤ 8 ∧ M 1 3 = nI n ∧ M 1 4 = nI t ∧ M 11 3 = nI n ∧ M 11 5 = nI t ∧ M 12 = M 35 ∧ (∀ p, p < n → wiF (M 12 p) (-2) 10 = true) ∧ M 14 = M 37 ∧ (∀ j, j < 4 * t → vp_in (M 14 j) n) ∧ ∀ p, p < 32 → (M 13 p = 0 ∧ M 36 p = -1) ∨ (M 13 p = 1 ∧ 0 ≤ M 36 p)
def NoiI (M : Mem) (e : Nat) : Prop := e ≤ 20 ∧ M 2 1 = nI e ∧ M 11 15 = nI e ∧ M 15 = M 39
def StaI (M : Mem) (c m dy : Nat) (pl rd : Nat → Nat) : Prop := m ≤ 60 ∧ M 8 4 = nI m ∧ M 11 30 = nI m ∧ M 20 = M 46 ∧ (∀ p, cntN (M 20) p m ≤ 8) ∧ CSt M pl rd ∧ MSt M pl rd ∧ (∀ k, k < m → pl k ≤ 16 * c) ∧ (∀ k, k < 60 → rd k ≤ 2) ∧ (∀ k, m ≤ k → k < 60 → pl k = 0 ∧ rd k = 0) ∧ M 23 = M 49 ∧ dy ≤ 100000 ∧ M 8 5 = nI dy ∧ M 11 31 = nI dy ∧ M 0 6 = M 11 32
def LinI (M : Mem) (r : Nat) : Prop := r ≤ 8 ∧ M 10 5 = nI r ∧ M 11 49 = nI r ∧ M 30 = M 58 ∧ M 31 = M 59 ∧ M 32 = M 60 ∧ M 33 = M 61 ∧ M 34 = M 62 ∧ M 10 7 = M 11 45 ∧ M 10 8 = M 11 46 ∧ M 10 9 = M 11 47 ∧ M 10 10 = M 11 48 ∧ bz (M 10 6) ∧ M 10 6 = M 11 44 ∧ ∀ i, i < r → lnF (M 31 i) (M 32 i) (M 33 i) (M 34 i) = true
/-- each match has one of its two teams as its loser -/
def LoO (P : List (Int32 × Int32)) (L : List Int32) : Prop := ∀ j, j < L.length → L.getD j 0 = (P.getD j (0, 0)).1 ∨ L.getD j 0 = (P.getD j (0, 0)).2
def TouI (M : Mem) (t : Nat) (E W H L : List Int32) : Prop := rl M 4 E ∧ rl M 5 W ∧ rl M 6 H ∧ rl M 7 L ∧ bz (M 3 4) ∧ bz (M 3 5) ∧ M 3 4 = M 11 6 ∧ M 3 5 = M 11 7 ∧ M 3 6 = M 11 8 ∧ M 3 7 = M 11 9 ∧ M 3 8 = M 11 11 ∧ M 3 9 = M 11 10 ∧ MR M E W H ∧ MP M (prs W H) L.length ∧ (∀ j, j < L.length → M 44 j = L.getD j 0) ∧ E.Nodup ∧ (∀ x ∈ E, vp_in x t) ∧ (W ++ H).Nodup ∧ (∀ x ∈ W ++ H, x ∈ E) ∧ LoO (prs W H) L ∧ (M 3 5 = 0 → W = [] ∧ H = [] ∧ L = [] ∧ M 3 9 = 0) ∧ (¬ M 3 4 = 0 → ∃ N, 4 ≤ N ∧ N ≤ 6 ∧ M 3 7 = nI N) ∧ (¬ M 3 5 = 0 → ¬ M 3 4 = 0 ∧ ∀ q, q < 8 → M 45 q = poF 1 E W H (nI q))
def Inv (c : Nat) (M : Mem) : Prop := ∃ (n t e m dy r : Nat) (pl rd : Nat → Nat) (E W H L : List Int32), RosI M n t ∧ NoiI M e ∧ TouI M t E W H L ∧ StaI M c m dy pl rd ∧ LinI M r
/-- a call with a wrapper, and the reference's call behind it, answer alike -/
def OpV (l : Launch) (wm : Nat) (ws : List Value) (mm : Nat) (ms : List Value) (c : Nat) (M : Mem) (o : Ou) (out : Int32 → Int64) : Prop := ∃ k p1, k ≤ 2 ∧ Ct l 150 8 wm ws M o p1 nX ∧ ∀ v M1 o1, p1 v M1 o1 → v = some (.int (nI k)) ∧ ∃ p2, Ct l 20 0 mm ms M1 o1 p2 nX ∧ ∀ v2 M2 o2, p2 v2 M2 o2 → ∃ b, v2 = some (.int b) ∧ o2 = o1 ∧ M2 11 0 = nI k ∧ Inv (c + 1) M2 ∧ (k = 0 → o1 0 = out b)
def OpN (l : Launch) (wm : Nat) (ws : List Value) (mm : Nat) (ms : List Value) (c : Nat) (M : Mem) (o : Ou) : Prop := ∃ k p1, k ≤ 2 ∧ Ct l 150 8 wm ws M o p1 nX ∧ ∀ v M1 o1, p1 v M1 o1 → v = some (.int (nI k)) ∧ ∃ p2, Ct l 20 0 mm ms M1 o1 p2 nX ∧ ∀ v2 M2 o2, p2 v2 M2 o2 → v2 = none ∧ o2 = o1 ∧ M2 11 0 = nI k ∧ Inv (c + 1) M2
def OpD (l : Launch) (fm : Nat) (fs : List Value) (mm : Nat) (ms : List Value) (c : Nat) (M : Mem) (o : Ou) : Prop := ∃ p1, Ct l 20 8 fm fs M o p1 nX ∧ ∀ v M1 o1, p1 v M1 o1 → ∃ a, v = some (.int a) ∧ ∃ p2, Ct l 20 0 mm ms M1 o1 p2 nX ∧ ∀ v2 M2 o2, p2 v2 M2 o2 → v2 = some (.int a) ∧ Inv (c + 1) M2
theorem StaI.up {M : Mem} {c m dy : Nat} {pl rd : Nat → Nat} (h : StaI M c m dy pl rd) : StaI M (c + 1) m dy pl rd := by
  obtain ⟨a1, a2, a3, a4, a5, a6, a7, a8, a9⟩ := h
  exact ⟨a1, a2, a3, a4, a5, a6, a7, fun k hk => by have := a8 k hk; omega, a9⟩
/-- from a face, its wrapper and the reference's contract -/
theorem op_mk {l : Launch} {wm mm c k : Nat} {ws ms : List Value} {M M1 M1' : Mem} {o : Ou} {r : Int32} {out : Int32 → Int64} (hk : k ≤ 2)
    (hw : Ct l 150 8 wm ws M o (fun v M' o' => v = some (.int (nI k)) ∧ eF k M1 M M' ∧ o' = (if k = 0 then vp_updL o 0 (out r) else o)) nX)
    (h0 : k = 0 → (∀ o, Ct l 20 0 mm ms M1 o (mF k r M1' M1 o) nX) ∧ Inv (c + 1) M1' ∧ M1' 11 0 = nI 0)
    (h1 : ¬ k = 0 → (∀ o, ∃ r' M2', Ct l 20 0 mm ms M o (mF k r' M2' M o) nX) ∧ Inv (c + 1) (thr M k)) : OpV l wm ws mm ms c M o out := by
  refine ⟨k, _, hk, hw, fun v M2 o1 q => ?_⟩
  obtain ⟨hv, hM, ho⟩ := q
  refine ⟨hv, ?_⟩
  by_cases hk0 : k = 0
  · obtain ⟨g1, g2, g3⟩ := h0 hk0
    unfold eF at hM
    rw [if_pos hk0] at hM
    subst hM
    refine ⟨_, g1 o1, fun v2 M3 o2 q => ?_⟩
    obtain ⟨q1, q2, q3⟩ := q
    rw [if_pos hk0] at q1 q2
    rw [q2]
    refine ⟨r, q1, q3, by rw [g3, hk0], g2, fun _ => ?_⟩
    rw [ho, if_pos hk0]
    exact pk_uLs
  · obtain ⟨g1, g2⟩ := h1 hk0
    unfold eF at hM
    rw [if_neg hk0] at hM
    subst hM
    obtain ⟨r', M2', g3⟩ := g1 o1
    refine ⟨_, g3, fun v2 M3 o2 q => ?_⟩
    obtain ⟨q1, q2, q3⟩ := q
    rw [if_neg hk0] at q1 q2
    rw [q2]
    exact ⟨0, q1, q3, mset_same _ _ _ _, g2, fun z => absurd z hk0⟩
theorem inv_thr {c k : Nat} {M : Mem} (h : Inv c M) : Inv (c + 1) (thr M k) := by
  obtain ⟨n, t, e, m, dy, r, pl, rd, E, W, H, L, h1, h2, h3, h4, h5⟩ := h
  exact ⟨n, t, e, m, dy, r, pl, rd, E, W, H, L, h1, h2, h3, h4.up, h5⟩
theorem ite2 {P : Prop} [Decidable P] {x y : Nat} (hx : x ≤ 2) (hy : y ≤ 2) : (if P then x else y) ≤ 2 := by split <;> assumption
theorem cond2 {b : Bool} {x y : Nat} (hx : x ≤ 2) (hy : y ≤ 2) : cond b x y ≤ 2 := by cases b <;> assumption
theorem cond0 {b : Bool} {x y : Nat} (h : cond b x y = 0) (hy : y ≠ 0) : b = true ∧ x = 0 := by
  cases b with
  | true => exact ⟨rfl, h⟩
  | false => exact absurd h hy
theorem ite0 {P : Prop} [Decidable P] {x y : Nat} (h : (if P then x else y) = 0) (hy : y ≠ 0) : P ∧ x = 0 := by
  by_cases w : P
  · rw [if_pos w] at h; exact ⟨w, h⟩
  · rw [if_neg w] at h; exact absurd h hy
theorem op_player {l : Launch} (hl : l.stackTraces = false) (M : Mem) (o : Ou) {c : Nat} (a : Int32) (h : Inv c M) : OpV l 179 [.ref 0, .int a, .ref 63] 125 [.ref 11, .int a] c M o Int32.toInt64 := by
  have h' := h
  obtain ⟨n, t, e, m, dy, r, pl, rd, E, W, H, L, h1, h2, h3, h4, h5⟩ := h
  obtain ⟨a1, a2, a3, a4, a5, a6, a7, a8, a9, a10, a11⟩ := h1
  have hkk : kPl a n ≤ 2 := by unfold kPl; exact ite2 (ite2 (by decide) (by decide)) (by decide)
  refine op_mk (M1' := mset (mset (thr (mset (mset M 12 n a) 1 3 (nI (n + 1))) 0) 35 n a) 11 3 (nI (n + 1))) hkk (w_player hl M o a (by decide) (c_X7_player hl M o a a3 a1)) (fun hk => ⟨fun o => c_X8_player hl _ o a a5 a1, ?_, rfl⟩) (fun hk => ⟨fun o => ⟨_, _, c_X8_player hl M o a a5 a1⟩, inv_thr h'⟩)
  have hn : n < 32 ∧ wiF a (-2) 10 = true := by
    unfold kPl at hk
    by_cases w : wiF a (-2) 10 = true
    · rw [if_pos w] at hk
      by_cases w2 : n < 32
      · exact ⟨w2, w⟩
      · rw [if_neg w2] at hk; exact absurd hk (by decide)
    · rw [if_neg w] at hk; exact absurd hk (by decide)
  refine ⟨n + 1, t, e, m, dy, r, pl, rd, E, W, H, L, ⟨by omega, a2, rfl, a4, rfl, a6, ?_, fun p hp => ?_, a9, fun j hj => ?_, a11⟩, h2, h3, h4.up, h5⟩
  · show upd (M 12) n a = upd (M 35) n a
    rw [a7]
  · show wiF (upd (M 12) n a p) (-2) 10 = true
    by_cases w : p = n
    · subst w; rw [pk_us]; exact hn.2
    · rw [pk_un w]; exact a8 p (by omega)
  · obtain ⟨q, hq, he⟩ := vp_in_of (a10 j hj) (by omega)
    show vp_in (M 14 j) (n + 1)
    rw [he]; exact vp_in_nI (by omega) (by omega)
theorem op_rate {l : Launch} (hl : l.stackTraces = false) (M : Mem) (o : Ou) {c : Nat} (p a : Int32) (h : Inv c M) : OpV l 180 [.ref 0, .int p, .int a, .ref 63] 126 [.ref 11, .int p, .int a] c M o Int32.toInt64 := by
  have h' := h
  obtain ⟨n, t, e, m, dy, r, pl, rd, E, W, H, L, h1, h2, h3, h4, h5⟩ := h
  obtain ⟨a1, a2, a3, a4, a5, a6, a7, a8, a9, a10, a11⟩ := h1
  have hkk : kRt p a n ≤ 2 := by unfold kRt; exact cond2 (cond2 (by decide) (by decide)) (by decide)
  have e7 : M 35 p.toNatClampNeg = M 12 p.toNatClampNeg := by rw [a7]
  refine op_mk (M1' := mset (thr (mset M 12 p.toNatClampNeg a) 0) 35 p.toNatClampNeg a) hkk (w_rate hl M o p a (by decide) (c_X7_rate hl M o p a a3 a1)) (fun hk => ⟨fun o => ?_, ?_, rfl⟩) (fun hk => ⟨fun o => ⟨_, _, c_X8_rate hl M o p a (n := n) a5 a1⟩, inv_thr h'⟩)
  · have := c_X8_rate hl (mset M 12 p.toNatClampNeg a) o p a (n := n) a5 a1
    rw [show (mset M 12 p.toNatClampNeg a) 35 p.toNatClampNeg = M 12 p.toNatClampNeg from e7] at this
    exact this
  · unfold kRt at hk
    have hw := (cond0 (cond0 hk (by decide)).2 (by decide)).1
    refine ⟨n, t, e, m, dy, r, pl, rd, E, W, H, L, ⟨a1, a2, a3, a4, a5, a6, ?_, fun q hq => ?_, a9, a10, a11⟩, h2, h3, h4.up, h5⟩
    · show upd (M 12) p.toNatClampNeg a = upd (M 35) p.toNatClampNeg a
      rw [a7]
    · show wiF (upd (M 12) p.toNatClampNeg a q) (-2) 10 = true
      by_cases w : q = p.toNatClampNeg
      · rw [w, pk_us]; exact hw
      · rw [pk_un w]; exact a8 q hq
theorem op_strength {l : Launch} (hl : l.stackTraces = false) (M : Mem) (o : Ou) {c : Nat} (a : Int32) (h : Inv c M) : OpV l 182 [.ref 0, .int a, .ref 63] 130 [.ref 11, .int a] c M o Int32.toInt64 := by
  have h' := h
  obtain ⟨n, t, e, m, dy, r, pl, rd, E, W, H, L, h1, h2, h3, h4, h5⟩ := h
  obtain ⟨a1, a2, a3, a4, a5, a6, a7, a8, a9, a10, a11⟩ := h1
  have hkk : kTm a t ≤ 2 := by unfold kTm; exact cond2 (by decide) (by decide)
  have hm : ∀ q, q < 4 * t → vp_in (M 14 q) 32 := fun q hq => in32 a1 (a10 q hq)
  have hm' : ∀ q, q < 4 * t → vp_in (M 37 q) 32 := by rw [← a9]; exact hm
  have hc : ∀ o, Ct l 20 0 130 [.ref 11, .int a] M o (mF (kTm a t) (sum4 (M 12) (M 14) a.toNatClampNeg) (thr M 0) M o) nX := fun o => by
    have := c_X8_strength hl M o a a6 a2 hm'
    rw [← a7, ← a9] at this
    exact this
  exact op_mk hkk (w_strength hl M o a (by decide) (by unfold kTm; cases inB a t <;> decide) (c_X7_strength hl M o a a4 a2 hm)) (fun hk => ⟨hc, inv_thr h', rfl⟩) (fun hk => ⟨fun o => ⟨_, _, hc o⟩, inv_thr h'⟩)
theorem op_noise {l : Launch} (hl : l.stackTraces = false) (M : Mem) (o : Ou) {c : Nat} (a : Int32) (h : Inv c M) : OpD l 91 [.ref 0, .int a] 133 [.ref 11, .int a] c M o := by
  obtain ⟨n, t, e, m, dy, r, pl, rd, E, W, H, L, h1, h2, h3, h4, h5⟩ := h
  obtain ⟨b1, b2, b3, b4⟩ := h2
  refine ⟨_, c_X7_noise hl M o a b2 b1, fun v M1 o1 q => ?_⟩
  obtain ⟨q1, q2, q3⟩ := q
  subst q2
  by_cases he : e = 20
  · rw [if_pos he] at q1
    rw [if_pos he]
    refine ⟨_, q1, _, c_X8_noise hl M o1 a b3 b1, fun v2 M2 o2 q => ?_⟩
    obtain ⟨w1, w2, w3⟩ := q
    rw [if_pos he] at w1 w2
    rw [w2]
    exact ⟨w1, n, t, e, m, dy, r, pl, rd, E, W, H, L, h1, ⟨b1, b2, b3, b4⟩, h3, h4.up, h5⟩
  · rw [if_neg he] at q1
    rw [if_neg he]
    refine ⟨_, q1, _, c_X8_noise hl _ o1 a (n := e) b3 b1, fun v2 M2 o2 q => ?_⟩
    obtain ⟨w1, w2, w3⟩ := q
    rw [if_neg he] at w1 w2
    rw [w2]
    refine ⟨w1, n, t, e + 1, m, dy, r, pl, rd, E, W, H, L, h1, ⟨by omega, rfl, rfl, ?_⟩, h3, h4.up, h5⟩
    show upd (M 15) e a = upd (M 39) e a
    rw [b4]
theorem op_pony {l : Launch} (hl : l.stackTraces = false) (M : Mem) (o : Ou) {c : Nat} (a : Int32) (h : Inv c M) : OpV l 191 [.ref 0, .int a, .ref 63] 146 [.ref 11, .int a] c M o Int32.toInt64 := by
  have h' := h
  obtain ⟨n, t, e, m, dy, r, pl, rd, E, W, H, L, h1, h2, h3, h4, h5⟩ := h
  obtain ⟨a1, a2, a3, a4, a5, a6, a7, a8, a9, a10, a11⟩ := h1
  obtain ⟨s1, s2, s3, s4, s5, s6, s7, s8, s9, s10, s11, s12, s13, s14, s15⟩ := h4
  have hkk : kPo a n m (cntN (M 20) a m) ≤ 2 := by unfold kPo; exact cond2 (ite2 (by decide) (by decide)) (by decide)
  have hcM : ∀ o, Ct l 20 0 146 [.ref 11, .int a] M o (mF (kPo a n m (cntN (M 20) a m)) (nI m) (mPo (thr M 0) m a) M o) nX := fun o => by
    have := c_X8_pony hl M o a (n := n) (m := m) a5 a1 s3 s1 (by rw [← s4]; exact s5 a)
    rw [← s4] at this
    exact this
  refine op_mk (M1' := mPo (thr (cPo M m a) 0) m a) hkk (w_pony hl M o a (by decide) (c_X7_pony hl M o a a3 a1 s2 s1)) (fun hk => ⟨fun o => ?_, ?_, rfl⟩) (fun hk => ⟨fun o => ⟨_, _, hcM o⟩, inv_thr h'⟩)
  · have := c_X8_pony hl (cPo M m a) o a (n := n) (m := m) a5 a1 s3 s1 (by show cntN (M 46) a m ≤ 8; rw [← s4]; exact s5 a)
    rw [show (cPo M m a) 46 = M 20 from s4.symm] at this
    exact this
  · unfold kPo at hk
    have hw := (ite0 (cond0 hk (by decide)).2 (by decide)).1
    have hup : ∀ q x, cntN (upd (M 20) m a) q x = cntN (M 20) q x ∨ m < x := by
      intro q x
      by_cases w : m < x
      · exact Or.inr w
      · refine Or.inl ?_
        have : ∀ x, x ≤ m → cntN (upd (M 20) m a) q x = cntN (M 20) q x := by
          intro x
          induction x with
          | zero => intro _; rfl
          | succ x ih => intro hx; rw [cntN, cntN, ih (by omega), pk_un (by omega)]
        exact this x (by omega)
    refine ⟨n, t, e, m + 1, dy, r, pl, rd, E, W, H, L, ⟨a1, a2, a3, a4, a5, a6, a7, a8, a9, a10, a11⟩, h2, h3, ⟨by omega, rfl, rfl, ?_, fun q => ?_, s6, s7, fun k hk => ?_, s9, fun k h1 h2 => s10 k (by omega) h2, s11, s12, s13, s14, s15⟩, h5⟩
    · show upd (M 20) m a = upd (M 46) m a
      rw [s4]
    · show cntN (upd (M 20) m a) q (m + 1) ≤ 8
      rw [cntN, (hup q m).resolve_right (by omega), pk_us]
      by_cases w : a = q
      · subst w; rw [if_pos rfl]; omega
      · rw [if_neg w]; have := s5 q; omega
    · by_cases w : k = m
      · rw [w, (s10 m (Nat.le_refl _) (by omega)).1]; omega
      · have := s8 k (by omega); omega
theorem op_lame {l : Launch} (hl : l.stackTraces = false) (M : Mem) (o : Ou) {c : Nat} (p a : Int32) (h : Inv c M) : OpV l 192 [.ref 0, .int p, .int a, .ref 63] 148 [.ref 11, .int p, .int a] c M o (fun r => if r = 0 then 0 else 1) := by
  have h' := h
  obtain ⟨n, t, e, m, dy, r, pl, rd, E, W, H, L, h1, h2, h3, h4, h5⟩ := h
  obtain ⟨s1, s2, s3, s4, s5, s6, s7, s8, s9, s10, s11, s12, s13, s14, s15⟩ := h4
  have hkk : kLa p a m ≤ 2 := by unfold kLa; exact cond2 (cond2 (by decide) (by decide)) (by decide)
  refine op_mk (M1' := mset (thr (mset M 23 p.toNatClampNeg a) 0) 49 p.toNatClampNeg a) hkk (w_lame hl M o p a (by decide) (c_X7_lame hl M o p a s2 s1)) (fun hk => ⟨fun o => ?_, ?_, rfl⟩) (fun hk => ⟨fun o => ⟨_, _, c_X8_lame hl M o p a s3 s1⟩, inv_thr h'⟩)
  · have := c_X8_lame hl (mset M 23 p.toNatClampNeg a) o p a (n := m) s3 s1
    rw [show (mset M 23 p.toNatClampNeg a) 11 31 = M 8 5 from s14.trans s13.symm] at this
    exact this
  · refine ⟨n, t, e, m, dy, r, pl, rd, E, W, H, L, h1, h2, h3, ⟨s1, s2, s3, s4, s5, s6, s7, fun k hk => by have := s8 k hk; omega, s9, s10, ?_, s12, s13, s14, s15⟩, h5⟩
    show upd (M 23) p.toNatClampNeg a = upd (M 49) p.toNatClampNeg a
    rw [s11]
theorem op_told {l : Launch} (hl : l.stackTraces = false) (M : Mem) (o : Ou) {c : Nat} (p a : Int32) (h : Inv c M) : OpV l 193 [.ref 0, .int p, .int a, .ref 63] 149 [.ref 11, .int p, .int a] c M o Int32.toInt64 := by
  have h' := h
  obtain ⟨n, t, e, m, dy, r, pl, rd, E, W, H, L, h1, h2, h3, h4, h5⟩ := h
  obtain ⟨s1, s2, s3, s4, s5, s6, s7, s8, s9, s10, s11, s12, s13, s14, s15⟩ := h4
  have hkk : kTo p a m ≤ 2 := by unfold kTo; exact cond2 (cond2 (by decide) (by decide)) (by decide)
  refine op_mk (M1' := thr M 0) hkk (w_told hl M o p a (by decide) (c_X7_told hl M o p a s2 s1)) (fun hk => ⟨fun o => ?_, inv_thr h', rfl⟩) (fun hk => ⟨fun o => ⟨_, _, c_X8_told hl M o p a s3 s1⟩, inv_thr h'⟩)
  have := c_X8_told hl M o p a s3 s1
  unfold kTo at hk
  obtain ⟨q, hq, hp⟩ := vp_in_of (inB_e (cond0 hk (by decide)).1) (by omega)
  have e1 : p.toNatClampNeg = q := by rw [hp, nI_clamp (by omega)]
  rw [e1] at this ⊢
  rw [← s4, s7.1 q (by omega), s7.2 q (by omega), i7, pk_mul, ← s6.1 q (by omega), ← s6.2 q (by omega)] at this
  exact this
theorem op_rest {l : Launch} (hl : l.stackTraces = false) (M : Mem) (o : Ou) {c : Nat} (h : Inv c M) : OpV l 195 [.ref 0, .ref 63] 150 [.ref 11] c M o Int32.toInt64 := by
  have h' := h
  obtain ⟨n, t, e, m, dy, r, pl, rd, E, W, H, L, h1, h2, h3, h4, h5⟩ := h
  obtain ⟨s1, s2, s3, s4, s5, s6, s7, s8, s9, s10, s11, s12, s13, s14, s15⟩ := h4
  have hkk : kRe dy ≤ 2 := by unfold kRe; exact ite2 (by decide) (by decide)
  refine op_mk (M1' := mRe (thr (cRe M m dy) 0) m dy) hkk (w_rest hl M o (by decide) (by unfold kRe; split <;> decide) (c_X7_rest hl M o s2 s1 s13 s12)) (fun hk => ⟨fun o => c_X8_rest hl (cRe M m dy) o s3 s1 s14 s12, ?_, rfl⟩) (fun hk => ⟨fun o => ⟨_, _, c_X8_rest hl M o s3 s1 s14 s12⟩, inv_thr h'⟩)
  unfold kRe at hk
  have hd := (ite0 hk (by decide)).1
  refine ⟨n, t, e, m, dy + 1, r, pl, fun k => if k < m then 0 else rd k, E, W, H, L, h1, h2, h3, ⟨s1, s2, s3, s4, s5, ⟨s6.1, fun k hk => ?_⟩, ⟨s7.1, fun k hk => ?_⟩, fun k hk => by have := s8 k hk; omega, fun k hk => ?_, fun k h1 h2 => ⟨(s10 k h1 h2).1, ?_⟩, s11, by omega, rfl, rfl, s15⟩, h5⟩
  · show (if k < m then 0 else M 22 k) = nI (if k < m then 0 else rd k)
    by_cases w : k < m
    · rw [if_pos w, if_pos w]; rfl
    · rw [if_neg w, if_neg w]; exact s6.2 k hk
  · show (if k < m then 0 else M 48 k) = nI (if k < m then 0 else rd k)
    by_cases w : k < m
    · rw [if_pos w, if_pos w]; rfl
    · rw [if_neg w, if_neg w]; exact s7.2 k hk
  · show (if k < m then 0 else rd k) ≤ 2
    split
    · omega
    · exact s9 k hk
  · show (if k < m then 0 else rd k) = 0
    rw [if_neg (by omega)]; exact (s10 k h1 h2).2
theorem op_afoot {l : Launch} (hl : l.stackTraces = false) (M : Mem) (o : Ou) {c : Nat} (h : Inv c M) : OpD l 102 [.ref 0] 161 [.ref 11] c M o := by
  have h' := h
  obtain ⟨n, t, e, m, dy, r, pl, rd, E, W, H, L, h1, h2, h3, h4, h5⟩ := h
  refine ⟨_, c_X7_afoot hl M o, fun v M1 o1 q => ?_⟩
  obtain ⟨q1, q2, q3⟩ := q
  subst q2
  refine ⟨_, q1, _, c_X8_afoot hl M1 o1, fun v2 M2 o2 q => ?_⟩
  obtain ⟨w1, w2, w3⟩ := q
  rw [w2, w1, h4.2.2.2.2.2.2.2.2.2.2.2.2.2.2]
  exact ⟨rfl, inv_thr h'⟩
theorem c_X8_right20 {l : Launch} (hl : l.stackTraces = false) (M : Mem) (o : Ou) {n : Nat} (hf : M 11 49 = nI n) (hn : n ≤ 8) : Ct l 20 0 171 [.ref 11] M o (rI (oI (mRg M n)) (thr M 0) o) nX := by
  refine ct_plain hl ok171 (by decide) (by decide) rfl rfl (by decide) (Nat.le_of_ble_eq_true rfl) (fun G hG => hG 0 _ _ _ _ _ ?_)
  exact clI (c_X8_rightOf hl (mset M 11 0 0) o (n := n) hf hn) (by decide) (by decide) ⟨⟨rfl, rfl, rfl⟩, Nat.le_refl _⟩
theorem op_right {l : Launch} (hl : l.stackTraces = false) (M : Mem) (o : Ou) {c : Nat} (h : Inv c M) : OpD l 106 [.ref 0] 171 [.ref 11] c M o := by
  have h' := h
  obtain ⟨n, t, e, m, dy, r, pl, rd, E, W, H, L, h1, h2, h3, h4, h5⟩ := h
  obtain ⟨l1, l2, l3, l4, l5, l6, l7, l8, l9, l10, l11, l12, l13, l14, l15⟩ := h5
  refine ⟨_, c_X7_right hl M o l2 l1, fun v M1 o1 q => ?_⟩
  obtain ⟨q1, q2, q3⟩ := q
  subst q2
  have e : cRg M1 r = mRg M1 r := by
    show rgF (alF (M1 33) (M1 34) (M1 10 9) (M1 10 10)) (gbF (alF (M1 33) (M1 34) (M1 10 9) (M1 10 10)) (frF (M1 31) (M1 32) (M1 10 7) (M1 10 8)) (M1 33) (M1 34)) r = mRg M1 r
    rw [l5, l6, l7, l8, l9, l10, l11, l12]
  refine ⟨_, q1, _, c_X8_right20 hl M1 o1 l3 l1, fun v2 M2 o2 q => ?_⟩
  obtain ⟨w1, w2, w3⟩ := q
  rw [w2, w1, e]
  exact ⟨rfl, inv_thr h'⟩
theorem op_count {l : Launch} (hl : l.stackTraces = false) (M : Mem) (o : Ou) {c : Nat} (a : Int32) (h : Inv c M) : OpD l 108 [.ref 0, .int a] 176 [.ref 11, .int a] c M o := by
  have h' := h
  obtain ⟨n, t, e, m, dy, r, pl, rd, E, W, H, L, h1, h2, h3, h4, h5⟩ := h
  refine ⟨_, c_X7_count hl M o a, fun v M1 o1 q => ?_⟩
  obtain ⟨q1, q2, q3⟩ := q
  subst q2
  refine ⟨_, q1, _, c_X8_count hl M1 o1 a, fun v2 M2 o2 q => ?_⟩
  obtain ⟨w1, w2, w3⟩ := q
  rw [w2]
  refine ⟨?_, inv_thr h'⟩
  rw [w1]
  obtain ⟨a1, a2, a3, a4, a5, a6, _⟩ := h1
  obtain ⟨t1, _, _, _, _, _, _, _, _, _, t11, t12, t13, _⟩ := h3
  obtain ⟨b1, b2, b3, b4⟩ := h2
  obtain ⟨s1, s2, s3, s4, s5, s6, s7, s8, s9, s10, s11, s12, s13, s14, s15⟩ := h4
  unfold cCn mCn
  rw [a3, a4, a5, a6, s2, s3, t1.1, t13.1.1, t11, t12, s13, s14, b2, b3, h5.2.1, h5.2.2.1]
