/-! CONTRACTS: the reference's roster and numbers. -/
def thr (M : Mem) (k : Nat) : Mem := mset M 11 0 (nI k)
theorem mset_mset (M : Mem) (i k : Nat) (a b : Int32) : mset (mset M i k a) i k b = mset M i k b := by
  funext x y
  unfold mset
  by_cases h : x = i
  · simp only [h, if_true]; unfold upd; split <;> rfl
  · simp only [h, if_false]
theorem thr_thr (M : Mem) (a b : Nat) : thr (thr M a) b = thr M b := mset_mset _ _ _ _ _
/-- what a face of the reference gives: the value, or 0 with the thrown code -/
abbrev mF (k : Nat) (r : Int32) (M1 M : Mem) (o1 : Ou) : Option Value → Mem → Ou → Prop := fun v M' o' => v = some (.int (if k = 0 then r else 0)) ∧ M' = (if k = 0 then M1 else thr M k) ∧ o' = o1
theorem mF0 {k : Nat} {r : Int32} {M1 M : Mem} {o1 : Ou} (h : k = 0) : mF k r M1 M o1 (some (.int r)) M1 o1 := ⟨by rw [if_pos h], by rw [if_pos h], rfl⟩
theorem mF0' {k : Nat} {r r' : Int32} {M1 M M' : Mem} {o1 : Ou} (h : k = 0) (hr : r' = r) (hM : M' = M1) : mF k r M1 M o1 (some (.int r')) M' o1 := ⟨by rw [if_pos h, hr], by rw [if_pos h, hM], rfl⟩
theorem mF1 {k w : Nat} {r : Int32} {M1 M : Mem} {o1 : Ou} (h : k = w) (hw : w ≠ 0) (x : Nat) : mF k r M1 M o1 (some (.int 0)) (thr (thr M x) w) o1 := by
  subst h
  exact ⟨by rw [if_neg hw], by rw [if_neg hw, thr_thr], rfl⟩
theorem mF1' {k w : Nat} {r : Int32} {M1 M : Mem} {o1 : Ou} (h : k = w) (hw : w ≠ 0) : mF k r M1 M o1 (some (.int 0)) (thr M w) o1 := by
  subst h
  exact ⟨by rw [if_neg hw], by rw [if_neg hw], rfl⟩
theorem c_X8_isHandicap {l : Launch} (hl : l.stackTraces = false) (M : Mem) (o : Ou) (v : Int32) : Ct l 8 0 123 [.int v] M o (rI (cond (wiF v (-2) 10) 1 0) M o) nX := by
  refine ct_plain hl ok123 (by decide) (by decide) rfl rfl (by decide) (Nat.le_of_ble_eq_true rfl) (fun G hG => hG 0 _ _ _ _ _ ?_)
  refine ⟨fun h => ?_, fun h => ⟨fun h2 => ?_, fun h2 => ?_⟩⟩
  · refine hG 8 _ _ _ _ _ ?_
    exact ⟨bz0, ⟨by unfold wiF; rw [decide_eq_false (Int32.not_le.mpr h)]; rfl, rfl, rfl⟩, Nat.le_refl _⟩
  · refine hG 8 _ _ _ _ _ ?_
    exact ⟨bz0, ⟨by unfold wiF; rw [decide_eq_false (Int32.not_le.mpr h2), Bool.and_false]; rfl, rfl, rfl⟩, Nat.le_refl _⟩
  · refine hG 9 _ _ _ _ _ ?_
    exact ⟨bz1, ⟨by unfold wiF; rw [decide_eq_true (Int32.not_lt.mp h), decide_eq_true (Int32.not_lt.mp h2)]; rfl, rfl, rfl⟩, Nat.le_refl _⟩
def inB (v : Int32) (n : Nat) : Bool := decide (¬ (v < 0 ∨ n ≤ v.toNatClampNeg))
theorem inB_t {v : Int32} {n : Nat} (h : vp_in v n) : inB v n = true := by unfold inB; exact decide_eq_true (show ¬ (v < 0 ∨ n ≤ v.toNatClampNeg) from h)
theorem inB_f {v : Int32} {n : Nat} (h : ¬ vp_in v n) : inB v n = false := by unfold inB; exact decide_eq_false (show ¬ ¬ (v < 0 ∨ n ≤ v.toNatClampNeg) from h)
theorem inB_e {v : Int32} {n : Nat} (h : inB v n = true) : vp_in v n := by unfold inB at h; exact of_decide_eq_true (p := ¬ (v < 0 ∨ n ≤ v.toNatClampNeg)) h
theorem inB_n {v : Int32} {n : Nat} (h : inB v n = false) : ¬ vp_in v n := by unfold inB at h; exact of_decide_eq_false (p := ¬ (v < 0 ∨ n ≤ v.toNatClampNeg)) h
theorem in_lt {v : Int32} {n : Nat} (hn : n < 2 ^ 31) (h : ¬ v < 0) (h2 : ¬ nI n ≤ v) : vp_in v n := by
  obtain ⟨j, hj, rfl⟩ := nI_of h
  refine vp_in_nI ?_ hn
  rcases Nat.lt_or_ge j n with q | q
  · exact q
  · exact absurd (nI_le q hj) h2
theorem in_neg {v : Int32} {n : Nat} (hn : n < 2 ^ 31) (h : v < 0) : ¬ vp_in v n := by
  intro q
  obtain ⟨j, hj, rfl⟩ := vp_in_of q hn
  exact nI_pos (by omega) h
theorem in_ge {v : Int32} {n : Nat} (hn : n < 2 ^ 31) (h : nI n ≤ v) : ¬ vp_in v n := by
  intro q
  obtain ⟨j, hj, rfl⟩ := vp_in_of q hn
  exact nI_ge hj hn h
theorem c_X8_isPlayer {l : Launch} (hl : l.stackTraces = false) (M : Mem) (o : Ou) {n : Nat} (v : Int32) (hf : M 11 3 = nI n) (hn : n < 2 ^ 31) : Ct l 8 0 124 [.ref 11, .int v] M o (rI (cond (inB v n) 1 0) M o) nX := by
  refine ct_plain hl ok124 (by decide) (by decide) rfl rfl (by decide) (Nat.le_of_ble_eq_true rfl) (fun G hG => hG 0 _ _ _ _ _ ?_)
  refine ⟨fun h => ?_, fun h => ⟨fun h2 => ?_, fun h2 => ?_⟩⟩
  · refine hG 8 _ _ _ _ _ ?_
    exact ⟨bz0, ⟨by rw [inB_f (in_neg hn h)]; rfl, rfl, rfl⟩, Nat.le_refl _⟩
  · refine hG 8 _ _ _ _ _ ?_
    rw [hf] at h2
    exact ⟨bz0, ⟨by rw [inB_f (in_ge hn h2)]; rfl, rfl, rfl⟩, Nat.le_refl _⟩
  · refine hG 9 _ _ _ _ _ ?_
    rw [hf] at h2
    exact ⟨bz1, ⟨by rw [inB_t (in_lt hn h h2)]; rfl, rfl, rfl⟩, Nat.le_refl _⟩
theorem c_X8_player {l : Launch} (hl : l.stackTraces = false) (M : Mem) (o : Ou) {n : Nat} (v : Int32) (hf : M 11 3 = nI n) (hn : n ≤ 32) : Ct l 20 0 125 [.ref 11, .int v] M o (mF (kPl v n) (nI n) (mset (mset (thr M 0) 35 n v) 11 3 (nI (n + 1))) M o) nX := by
  refine ct_plain hl ok125 (by decide) (by decide) rfl rfl (by decide) (Nat.le_of_ble_eq_true rfl) (fun G hG => hG 0 _ _ _ _ _ ?_)
  refine clI (c_X8_isHandicap hl _ o v) (by decide) (by decide) ⟨fun h => ?_, fun h => ?_⟩
  · refine hG 9 _ _ _ _ _ ?_
    refine clI (c_X8_bad0 hl _ o _) (by decide) (by decide) ⟨fun q => absurd rfl q, fun _ => ⟨fun h2 => ?_, fun h2 => ?_⟩⟩
    · refine hG 20 _ _ _ _ _ ?_
      have h2 : ¬ M 11 3 = 32 := h2
      have hn : n < 32 := by
        rcases Nat.lt_or_ge n 32 with q | q
        · exact q
        · exact absurd (by rw [hf, show n = 32 by omega]; rfl) h2
      have hk : kPl v n = 0 := by unfold kPl; rw [if_pos (cond_n h), if_pos hn]
      refine clI (c_X8_bad0 hl _ o _) (by decide) (by decide) ⟨fun _ => ?_, fun q => absurd rfl q⟩
      refine hG 26 _ _ _ _ _ ?_
      refine ⟨by rw [show mset M 11 0 0 11 3 = nI n from hf]; exact vp_in_nI hn (by decide), ?_, Nat.le_refl _⟩
      exact mF0' hk (show M 11 3 + 1 - 1 = nI n by rw [hf, nI_1, nI_pred]) (show mset (mset (mset M 11 0 0) 35 (M 11 3).toNatClampNeg v) 11 3 (M 11 3 + 1) = _ by rw [hf, nI_1, nI_clamp (by omega)]; rfl)
    · refine hG 21 _ _ _ _ _ ?_
      have h2 : M 11 3 = 32 := h2
      have hk : kPl v n = 2 := by unfold kPl; rw [if_pos (cond_n h), if_neg (fun q => nI_ge (a := n) (b := 32) q (by decide) (by rw [← hf, h2]; decide))]
      refine clI (c_X8_bad1 hl _ o _) (by decide) (by decide) ⟨fun q => absurd q (by decide), fun _ => ?_⟩
      exact ⟨mF1 hk (by decide) 0, Nat.le_refl _⟩
  · refine hG 10 _ _ _ _ _ ?_
    have hk : kPl v n = 1 := by unfold kPl; rw [if_neg (by rw [cond_z h]; decide)]
    refine clI (c_X8_bad1 hl _ o _) (by decide) (by decide) ⟨fun _ => ?_, fun q => absurd q (by decide)⟩
    refine hG 24 _ _ _ _ _ ?_
    exact ⟨mF1 hk (by decide) 0, Nat.le_refl _⟩

theorem c_X8_noise {l : Launch} (hl : l.stackTraces = false) (M : Mem) (o : Ou) {n : Nat} (v : Int32) (hf : M 11 15 = nI n) (hn : n ≤ 20) : Ct l 20 0 133 [.ref 11, .int v] M o (rI (if n = 20 then -1 else nI (n + 1)) (if n = 20 then thr M 0 else mset (mset (thr M 0) 39 n v) 11 15 (nI (n + 1))) o) nX := by
  refine ct_plain hl ok133 (by decide) (by decide) rfl rfl (by decide) (Nat.le_of_ble_eq_true rfl) (fun G hG => hG 0 _ _ _ _ _ ?_)
  refine ⟨fun h => ?_, fun h => ?_⟩
  · refine hG 9 _ _ _ _ _ ?_
    have h : ¬ M 11 15 = 20 := h
    have hne : ¬ n = 20 := fun q => h (by rw [hf, q]; rfl)
    have e1 : M 11 15 + 1 = nI (n + 1) := by rw [hf, nI_1]
    have e2 : (M 11 15).toNatClampNeg = n := by rw [hf, nI_clamp (by omega)]
    refine ⟨by rw [show mset M 11 0 0 11 15 = nI n from hf]; exact vp_in_nI (show n < 20 by omega) (by decide), ⟨?_, ?_, rfl⟩, Nat.le_refl _⟩
    · rw [if_neg hne, ← e1]; rfl
    · rw [if_neg hne, ← e1, ← e2]; rfl
  · have h : M 11 15 = 20 := h
    have hne : n = 20 := nI_inj (by omega) (by decide) (by rw [← hf, h]; decide)
    exact ⟨⟨by rw [if_pos hne], by rw [if_pos hne]; rfl, rfl⟩, Nat.le_refl _⟩
def kRt (p v : Int32) (n : Nat) : Nat := cond (inB p n) (cond (wiF v (-2) 10) 0 2) 1
theorem c_X8_rate {l : Launch} (hl : l.stackTraces = false) (M : Mem) (o : Ou) {n : Nat} (p v : Int32) (hf : M 11 3 = nI n) (hn : n ≤ 32) : Ct l 20 0 126 [.ref 11, .int p, .int v] M o (mF (kRt p v n) (M 35 p.toNatClampNeg) (mset (thr M 0) 35 p.toNatClampNeg v) M o) nX := by
  refine ct_plain hl ok126 (by decide) (by decide) rfl rfl (by decide) (Nat.le_of_ble_eq_true rfl) (fun G hG => hG 0 _ _ _ _ _ ?_)
  refine clI (c_X8_isPlayer (n := n) hl _ o p hf (by omega)) (by decide) (by decide) ⟨fun h => ?_, fun h => ?_⟩
  · refine hG 10 _ _ _ _ _ ?_
    have hp := cond_n h
    have hin : vp_in p 32 := by obtain ⟨j, hj, rfl⟩ := vp_in_of (inB_e hp) (by omega); exact vp_in_nI (by omega) (by decide)
    refine clI (c_X8_bad0 hl _ o _) (by decide) (by decide) ⟨fun q => absurd rfl q, fun _ => clI (c_X8_isHandicap hl _ o v) (by decide) (by decide) ⟨fun h2 => ?_, fun h2 => ?_⟩⟩
    · refine hG 20 _ _ _ _ _ ?_
      have hk : kRt p v n = 0 := by unfold kRt; rw [hp, cond_n h2]; rfl
      refine clI (c_X8_bad0 hl _ o _) (by decide) (by decide) ⟨fun _ => ?_, fun q => absurd rfl q⟩
      refine hG 26 _ _ _ _ _ ?_
      exact ⟨hin, hin, mF0 hk, Nat.le_refl _⟩
    · refine hG 21 _ _ _ _ _ ?_
      have hk : kRt p v n = 2 := by unfold kRt; rw [hp, cond_z h2]; rfl
      refine clI (c_X8_bad1 hl _ o _) (by decide) (by decide) ⟨fun q => absurd q (by decide), fun _ => ?_⟩
      exact ⟨mF1 hk (by decide) 0, Nat.le_refl _⟩
  · refine hG 11 _ _ _ _ _ ?_
    have hk : kRt p v n = 1 := by unfold kRt; rw [cond_z h]; rfl
    refine clI (c_X8_bad1 hl _ o _) (by decide) (by decide) ⟨fun _ => ?_, fun q => absurd q (by decide)⟩
    refine hG 24 _ _ _ _ _ ?_
    exact ⟨mF1 hk (by decide) 0, Nat.le_refl _⟩
theorem c_X7_rate {l : Launch} (hl : l.stackTraces = false) (M : Mem) (o : Ou) {n : Nat} (p v : Int32) (hf : M 1 3 = nI n) (hn : n ≤ 32) : Ct l 20 8 86 [.ref 0, .int p, .int v] M o (rF (kRt p v n) (M 12 p.toNatClampNeg) (eF (kRt p v n) (mset M 12 p.toNatClampNeg v) M) o) (xF IOB IAE (kRt p v n) (eF (kRt p v n) (mset M 12 p.toNatClampNeg v) M) o) := by
  refine ct_plain hl ok86 (by decide) (by decide) rfl rfl (by decide) (Nat.le_of_ble_eq_true rfl) (fun G hG => hG 0 _ _ _ _ _ ?_)
  refine clR (c_X7_requirePlayer hl M o p hf (by omega)) (by decide) (by decide) (fun hp => ?_) (fun hp => ?_)
  · have hin : vp_in p 32 := by obtain ⟨j, hj, rfl⟩ := vp_in_of hp (by omega); exact vp_in_nI (by omega) (by decide)
    refine clR (c_X7_requireHandicap hl M o _) (by decide) (by decide) (fun hw => ?_) (fun hw => ?_)
    · have hk : kRt p v n = 0 := by unfold kRt; rw [inB_t hp, hw]; rfl
      exact clI (c_X3_changeHandicap hl M o p v hin) (by decide) (by decide) ⟨⟨hk, rfl, eF0 hk, rfl⟩, by decide⟩
    · have hk : kRt p v n = 2 := by unfold kRt; rw [inB_t hp, Bool.not_eq_true _ |>.mp hw]; rfl
      exact ⟨⟨Or.inr ⟨hk, rfl⟩, eF2 hk, rfl⟩, by decide⟩
  · have hk : kRt p v n = 1 := by unfold kRt; rw [inB_f hp]; rfl
    exact ⟨⟨Or.inl ⟨hk, rfl⟩, eF1 hk, rfl⟩, by decide⟩
theorem c_X7_noise {l : Launch} (hl : l.stackTraces = false) (M : Mem) (o : Ou) {n : Nat} (v : Int32) (hf : M 2 1 = nI n) (hn : n ≤ 20) : Ct l 20 8 91 [.ref 0, .int v] M o (rI (if n = 20 then -1 else nI (n + 1)) (if n = 20 then M else mset (mset M 15 n v) 2 1 (nI (n + 1))) o) nX := by
  refine ct_plain hl ok91 (by decide) (by decide) rfl rfl (by decide) (Nat.le_of_ble_eq_true rfl) (fun G hG => hG 0 _ _ _ _ _ ?_)
  exact clI (c_X1_add hl M o v hf hn) (by decide) (by decide) ⟨⟨rfl, rfl, rfl⟩, by decide⟩
def kTm (t : Int32) (n : Nat) : Nat := cond (inB t n) 0 1
theorem c_X8_isTeam {l : Launch} (hl : l.stackTraces = false) (M : Mem) (o : Ou) {n : Nat} (v : Int32) (hf : M 11 5 = nI n) (hn : n < 2 ^ 31) : Ct l 8 0 128 [.ref 11, .int v] M o (rI (cond (inB v n) 1 0) (thr M (kTm v n)) o) nX := by
  refine ct_plain hl ok128 (by decide) (by decide) rfl rfl (by decide) (Nat.le_of_ble_eq_true rfl) (fun G hG => hG 0 _ _ _ _ _ ?_)
  have no : ¬ vp_in v n → G 7 [some (.ref 11), some (.int v)] [.ref 11] M o 0 := by
    intro h
    have hk : kTm v n = 1 := by unfold kTm; rw [inB_f h]; rfl
    refine hG 7 _ _ _ _ _ ?_
    refine hG 10 _ _ _ _ _ ?_
    refine ⟨fun _ => ?_, fun q => absurd q (by rw [mset_same]; decide)⟩
    refine hG 16 _ _ _ _ _ ?_
    exact ⟨bz0, ⟨by rw [inB_f h]; rfl, by rw [hk]; rfl, rfl⟩, Nat.le_refl _⟩
  refine ⟨fun h => no (in_neg hn h), fun h => ⟨fun h2 => ?_, fun h2 => ?_⟩⟩
  · refine hG 9 _ _ _ _ _ ?_
    rw [hf] at h2
    have h : vp_in v n := in_lt hn h (Int32.not_le.mpr h2)
    have hk : kTm v n = 0 := by unfold kTm; rw [inB_t h]; rfl
    refine ⟨fun q => absurd (by rw [mset_same]) q, fun _ => ?_⟩
    refine hG 17 _ _ _ _ _ ?_
    exact ⟨bz1, ⟨by rw [inB_t h]; rfl, by rw [hk]; rfl, rfl⟩, Nat.le_refl _⟩
  · rw [hf] at h2
    have h := in_ge hn (Int32.not_lt.mp h2)
    have hk : kTm v n = 1 := by unfold kTm; rw [inB_f h]; rfl
    refine hG 10 _ _ _ _ _ ?_
    refine ⟨fun _ => ?_, fun q => absurd q (by rw [mset_same]; decide)⟩
    refine hG 16 _ _ _ _ _ ?_
    exact ⟨bz0, ⟨by rw [inB_f h]; rfl, by rw [hk]; rfl, rfl⟩, Nat.le_refl _⟩
theorem c_X8_strengthOf {l : Launch} (hl : l.stackTraces = false) (M : Mem) (o : Ou) {T : Nat} (hT : T < 8) (hm : ∀ q, q < 4 → vp_in (M 37 (4 * T + q)) 32) : Ct l 8 0 129 [.ref 11, .int (nI T)] M o (rI (sum4 (M 35) (M 37) T) M o) nX := by
  have ein : ∀ q, q < 4 → vp_in (4 * nI T + nI q) 32 ∧ (4 * nI T + nI q).toNatClampNeg = 4 * T + q := by
    intro q hq
    rw [tidx']
    exact ⟨vp_in_nI (by omega) (by decide), nI_clamp (by omega)⟩
  refine ct_plain hl ok129 (by decide) (by decide) rfl rfl (by decide) (Nat.le_of_ble_eq_true rfl) (fun G hG => hG 0 _ _ _ _ _ ?_)
  have st : ∀ q (s : Int32), q < 4 → G 5 [some (.ref 11), some (.int (nI T)), some (.int (s + M 35 (M 37 (4 * T + q)).toNatClampNeg)), some (.int (nI (q + 1)))] [] M o 0 → G 5 [some (.ref 11), some (.int (nI T)), some (.int s), some (.int (nI q))] [] M o 0 := by
    intro q s hq h
    refine hG 5 _ _ _ _ _ ?_
    refine ⟨fun h => absurd h (nI_ge (a := q) (b := 4) hq (by decide)), fun _ => ⟨(ein q hq).1, ?_⟩⟩
    rw [(ein q hq).2]
    refine ⟨hm q hq, ?_⟩
    rw [← nI_1] at h
    exact h
  refine st 0 0 (by decide) (st 1 _ (by decide) (st 2 _ (by decide) (st 3 _ (by decide) ?_)))
  refine hG 5 _ _ _ _ _ ?_
  refine ⟨fun _ => ?_, fun h => absurd (by decide) h⟩
  refine hG 24 _ _ _ _ _ ?_
  exact ⟨⟨rfl, rfl, rfl⟩, Nat.le_refl _⟩
theorem c_X8_strength {l : Launch} (hl : l.stackTraces = false) (M : Mem) (o : Ou) {n : Nat} (t : Int32) (hf : M 11 5 = nI n) (hn : n ≤ 8) (hm : ∀ q, q < 4 * n → vp_in (M 37 q) 32) : Ct l 20 0 130 [.ref 11, .int t] M o (mF (kTm t n) (sum4 (M 35) (M 37) t.toNatClampNeg) (thr M 0) M o) nX := by
  refine ct_plain hl ok130 (by decide) (by decide) rfl rfl (by decide) (Nat.le_of_ble_eq_true rfl) (fun G hG => hG 0 _ _ _ _ _ ?_)
  refine clI (c_X8_isTeam hl M o t hf (by omega)) (by decide) (by decide) ⟨fun h => ?_, fun h => ?_⟩
  · refine hG 8 _ _ _ _ _ ?_
    have hk : kTm t n = 1 := by unfold kTm; rw [cond_z h]; rfl
    rw [hk]
    exact ⟨mF1' rfl (by decide), Nat.le_refl _⟩
  · have hk : kTm t n = 0 := by unfold kTm; rw [cond_n h]; rfl
    obtain ⟨T, hT, rfl⟩ := vp_in_of (inB_e (cond_n h)) (by omega)
    rw [hk]
    refine clI (c_X8_strengthOf hl (thr M 0) o (T := T) (by omega) (fun q hq => hm _ (by omega))) (by decide) (by decide) ?_
    refine hG 9 _ _ _ _ _ ?_
    exact ⟨mF0' hk (by rw [nI_clamp (by omega)]; rfl) rfl, Nat.le_refl _⟩
theorem c_X7_strength {l : Launch} (hl : l.stackTraces = false) (M : Mem) (o : Ou) {n : Nat} (t : Int32) (hf : M 1 4 = nI n) (hn : n ≤ 8) (hm : ∀ q, q < 4 * n → vp_in (M 14 q) 32) : Ct l 20 8 88 [.ref 0, .int t] M o (rF (kTm t n) (sum4 (M 12) (M 14) t.toNatClampNeg) (eF (kTm t n) M M) o) (xF IOB IAE (kTm t n) (eF (kTm t n) M M) o) := by
  refine ct_plain hl ok88 (by decide) (by decide) rfl rfl (by decide) (Nat.le_of_ble_eq_true rfl) (fun G hG => hG 0 _ _ _ _ _ ?_)
  refine clR (c_X7_requireTeam hl M o t hf (by omega)) (by decide) (by decide) (fun hp => ?_) (fun hp => ?_)
  · have hk : kTm t n = 0 := by unfold kTm; rw [inB_t hp]; rfl
    obtain ⟨T, hT, rfl⟩ := vp_in_of hp (by omega)
    rw [nI_clamp (by omega)]
    exact clI (c_X3_sumOf hl M o (T := T) (by omega) (fun q hq => hm _ (by omega))) (by decide) (by decide) ⟨⟨hk, rfl, eF0 hk, rfl⟩, by decide⟩
  · have hk : kTm t n = 1 := by unfold kTm; rw [inB_f hp]; rfl
    exact ⟨⟨Or.inl ⟨hk, rfl⟩, eF1 hk, rfl⟩, by decide⟩
