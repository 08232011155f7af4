/-! CONTRACTS: the reference's faces of the cup. -/
abbrev mNew (M : Mem) (a b : Int32) : Mem := mset (mset (mset (mset (mset (mset (mset (mset (mset (mset (mset M 11 6 1) 11 7 0) 11 8 a) 11 9 b) 11 13 0) 11 10 0) 11 11 0) 11 18 0) 11 19 0) 11 23 0) 11 24 0
theorem c_X8_cup {l : Launch} (hl : l.stackTraces = false) (M : Mem) (o : Ou) (a b : Int32) : Ct l 20 0 131 [.ref 11, .int a, .int b] M o (mV (kCu a b) (mNew (thr M 0) a b) M o) nX := by
  refine ct_plain hl ok131 (by decide) (by decide) rfl rfl (by decide) (Nat.le_of_ble_eq_true rfl) (fun G hG => hG 0 _ _ _ _ _ ?_)
  have no : (wiF a 0 40 && wiF b 4 6) = false → XS l 20 0 e131 (mV (kCu a b) (mNew (thr M 0) a b) M o) nX G 15 [some (.ref 11), some (.int a), some (.int b)] [.ref 11] (mset M 11 0 0) o 0 := by
    intro h
    have hk : kCu a b = 1 := by unfold kCu; rw [h]; rfl
    refine hG 18 _ _ _ _ _ ?_
    refine clI (c_X8_bad1 hl _ o _) (by decide) (by decide) ⟨fun q => absurd q (by decide), fun _ => ?_⟩
    refine ⟨⟨rfl, ?_, rfl⟩, Nat.le_refl _⟩
    rw [hk, if_neg (by decide)]
    exact thr_thr M 0 1
  refine ⟨fun h => hG 15 _ _ _ _ _ (no (by unfold wiF; rw [decide_eq_false (Int32.not_le.mpr h)]; rfl)), fun h1 => ⟨fun h => hG 15 _ _ _ _ _ (no (by unfold wiF; rw [decide_eq_false (Int32.not_le.mpr h), Bool.and_false]; rfl)), fun h2 => ⟨fun h => hG 15 _ _ _ _ _ (no (by unfold wiF; rw [decide_eq_false (Int32.not_le.mpr h)]; simp)), fun h3 => ⟨fun h4 => ?_, fun h => no (by unfold wiF; rw [decide_eq_false h]; simp)⟩⟩⟩⟩
  refine hG 17 _ _ _ _ _ ?_
  have hk : kCu a b = 0 := by unfold kCu wiF; rw [decide_eq_true (Int32.not_lt.mp h1), decide_eq_true (Int32.not_lt.mp h2), decide_eq_true (Int32.not_lt.mp h3), decide_eq_true h4]; rfl
  refine clI (c_X8_bad0 hl _ o _) (by decide) (by decide) ⟨fun _ => ?_, fun q => absurd rfl q⟩
  refine hG 22 _ _ _ _ _ ?_
  exact ⟨bz1, bz0, ⟨rfl, by rw [if_pos hk]; rfl, rfl⟩, Nat.le_refl _⟩
abbrev mSum (M : Mem) (t : Int32) : Int32 := sum4 (M 35) (M 37) t.toNatClampNeg
abbrev mEn (M : Mem) (E : List Int32) (t : Int32) : Mem := enM t (mSum M t) (M 11 8) E (mset (mset M 38 E.length t) 11 13 (nI (E.length + 1))) M
abbrev mKE (M : Mem) (t : Int32) (n : Nat) : Nat := kEn t (M 11 6) (M 11 7) n
theorem c_X8_enter {l : Launch} (hl : l.stackTraces = false) (M : Mem) (o : Ou) {n : Nat} {E : List Int32} (t : Int32) (hf : M 11 5 = nI n) (hn : n ≤ 8) (hm : ∀ q, q < 4 * n → vp_in (M 37 q) 32) (hE : Lst (M 38) (M 11 13) E) (h8 : vp_in t n → t ∉ E → E.length < 8) : Ct l 20 0 132 [.ref 11, .int t] M o (mF (mKE M t n) (enV t (mSum M t) (M 11 8) E) (mEn (thr M 0) E t) M o) nX := by
  have e8 := hE.2.1
  refine ct_plain hl ok132 (by decide) (by decide) rfl rfl (by decide) (Nat.le_of_ble_eq_true rfl) (fun G hG => hG 0 _ _ _ _ _ ?_)
  refine clI (c_X8_isTeam hl M o t hf (by omega)) (by decide) (by decide) ⟨fun h => ?_, fun h => ?_⟩
  · refine hG 17 _ _ _ _ _ ?_
    have hk : mKE M t n = 1 := by unfold mKE kEn; rw [cond_z h]; rfl
    have hk2 : kTm t n = 1 := by unfold kTm; rw [cond_z h]; rfl
    rw [hk2]
    exact ⟨mF1' hk (by decide), Nat.le_refl _⟩
  · have hp := cond_n h
    have hk2 : kTm t n = 0 := by unfold kTm; rw [hp]; rfl
    rw [hk2]
    have no : ¬ undr (M 11 6) (M 11 7) → XS l 20 0 e132 (mF (mKE M t n) (enV t (mSum M t) (M 11 8) E) (mEn (thr M 0) E t) M o) nX G 11 [some (.ref 11), some (.int t), none] [.ref 11] (thr M 0) o 0 := by
      intro h
      have hk : mKE M t n = 2 := by unfold mKE kEn; rw [hp, if_neg h]; rfl
      refine hG 14 _ _ _ _ _ ?_
      refine clI (c_X8_bad1 hl _ o _) (by decide) (by decide) ⟨fun q => absurd q (by decide), fun _ => ?_⟩
      exact ⟨mF1 hk (by decide) 0, Nat.le_refl _⟩
    refine ⟨fun h => hG 11 _ _ _ _ _ (no (fun q => q.1 h)), fun h1 => ⟨fun h2 => ?_, fun h => no (fun q => h q.2)⟩⟩
    refine hG 13 _ _ _ _ _ ?_
    have hk : mKE M t n = 0 := by unfold mKE kEn; rw [hp, if_pos ⟨h1, h2⟩]; rfl
    refine clI (c_X8_bad0 hl _ o _) (by decide) (by decide) ⟨fun _ => ?_, fun q => absurd rfl q⟩
    refine hG 19 _ _ _ _ _ ?_
    have k36 : ∀ j, t ∉ E → G 36 [some (.ref 11), some (.int t), some (.int j)] [] (thr M 0) o 0 := by
      intro j hne
      refine hG 36 _ _ _ _ _ ?_
      obtain ⟨T, hT, rfl⟩ := vp_in_of (inB_e hp) (by omega)
      have hs := c_X8_strengthOf hl (thr M 0) o (T := T) (by omega) (fun q hq => hm _ (by omega))
      have e : sum4 (thr M 0 35) (thr M 0 37) T = mSum M (nI T) := by unfold mSum; rw [nI_clamp (by omega)]; rfl
      rw [e] at hs
      refine clI hs (by decide) (by decide) ⟨fun h2 => ?_, fun h2 => ?_⟩
      · refine hG 44 _ _ _ _ _ ?_
        have h2 : mSum M (nI T) ≤ M 11 8 := h2
        have hl8 := h8 (inB_e hp) hne
        have e2 : (M 11 13).toNatClampNeg = E.length := by rw [hE.1, nI_clamp (by omega)]
        refine ⟨by rw [show thr M 0 11 13 = nI E.length from hE.1]; exact vp_in_nI hl8 (by decide), mF0' hk ?_ ?_, Nat.le_refl _⟩
        · show M 11 13 + 1 = _
          unfold enV; rw [if_neg hne, if_pos h2, hE.1, nI_1]
        · unfold mEn enM
          rw [if_neg hne, if_pos (show mSum (thr M 0) (nI T) ≤ thr M 0 11 8 from h2)]
          show mset (mset (thr M 0) 38 (M 11 13).toNatClampNeg (nI T)) 11 13 (M 11 13 + 1) = _
          rw [e2, hE.1, nI_1]
      · have h2 : ¬ mSum M (nI T) ≤ M 11 8 := h2
        refine ⟨mF0' hk ?_ ?_, Nat.le_refl _⟩
        · unfold enV; rw [if_neg hne, if_neg h2]
        · unfold mEn enM
          rw [if_neg hne, if_neg (show ¬ mSum (thr M 0) (nI T) ≤ thr M 0 11 8 from h2)]
    have key : ∀ m j, j + m = E.length → t ∉ E.take j → G 22 [some (.ref 11), some (.int t), some (.int (nI j))] [] (thr M 0) o 0 := by
      intro m
      induction m with
      | zero =>
        intro j hj hne
        refine hG 22 _ _ _ _ _ ?_
        refine ⟨fun _ => ?_, fun h => absurd (by rw [show thr M 0 11 13 = nI E.length from hE.1]; exact nI_le (by omega) (by omega)) h⟩
        rw [List.take_of_length_le (by omega)] at hne
        exact k36 _ hne
      | succ m ih =>
        intro j hj hne
        have hlt : j < E.length := by omega
        refine hG 22 _ _ _ _ _ ?_
        refine ⟨fun h => absurd (by rw [show thr M 0 11 13 = nI E.length from hE.1] at h; exact h) (nI_ge (a := j) (b := E.length) (by omega) (by omega)), fun _ => ⟨hE.in8 hlt, ?_⟩⟩
        rw [show thr M 0 38 (nI j).toNatClampNeg = E.getD j 0 from hE.at hlt]
        refine ⟨fun h2 => ?_, fun h2 => ?_⟩
        · refine hG 34 _ _ _ _ _ ?_
          have hnx := ih (j + 1) (by omega) (fun q => ((mem_take_succ hlt t).mp q).elim hne h2)
          rw [← nI_1] at hnx
          exact hnx
        · have hin : t ∈ E := by rw [← h2]; exact getD_mem hlt
          refine ⟨mF0' hk ?_ ?_, Nat.le_refl _⟩
          · unfold enV; rw [if_pos hin]
          · unfold mEn enM; rw [if_pos hin]
    exact key E.length 0 (by omega) (by rw [List.take_zero]; exact List.not_mem_nil)
def ghM (d c : Int32) : Int32 := if d ≤ 0 then 0 else 2 * (d * c / 6) + (if d * c - d * c / 6 * 6 ≤ 0 then 0 else 1)
theorem c_X8_givenTo {l : Launch} (hl : l.stackTraces = false) (M : Mem) (o : Ou) {A B : Nat} (hA : A < 8) (hB : B < 8) (mA : ∀ q, q < 4 → vp_in (M 37 (4 * A + q)) 32) (mB : ∀ q, q < 4 → vp_in (M 37 (4 * B + q)) 32) : Ct l 9 0 141 [.ref 11, .int (nI A), .int (nI B)] M o (rI (ghM (sum4 (M 35) (M 37) B - sum4 (M 35) (M 37) A) (M 11 9)) M o) nX := by
  refine ct_plain hl ok141 (by decide) (by decide) rfl rfl (by decide) (Nat.le_of_ble_eq_true rfl) (fun G hG => hG 0 _ _ _ _ _ ?_)
  refine clI (c_X8_strengthOf hl M o hB mB) (by decide) (by decide) (clI (c_X8_strengthOf hl M o hA mA) (by decide) (by decide) ?_)
  generalize hd : sum4 (M 35) (M 37) B = sb at hG ⊢
  generalize hd : sum4 (M 35) (M 37) A = sa at hG ⊢
  refine ⟨fun h => ?_, fun h => ?_⟩
  · refine hG 12 _ _ _ _ _ ?_
    refine ⟨by decide, by decide, fun h2 => ?_, fun h2 => ?_⟩
    · refine hG 28 _ _ _ _ _ ?_
      exact ⟨⟨by unfold ghM; rw [if_neg (Int32.not_le.mpr h), if_pos h2], rfl, rfl⟩, Nat.le_refl _⟩
    · refine hG 29 _ _ _ _ _ ?_
      exact ⟨⟨by unfold ghM; rw [if_neg (Int32.not_le.mpr h), if_neg h2], rfl, rfl⟩, Nat.le_refl _⟩
  · exact ⟨⟨by unfold ghM; rw [if_pos (Int32.not_lt.mp h)], rfl, rfl⟩, Nat.le_refl _⟩
/-- the reference's pairs and the match that is next -/
def MP (M : Mem) (P : List (Int32 × Int32)) (k : Nat) : Prop := Lst (M 42) (M 11 23) (P.map (·.1)) ∧ Lst (M 43) (M 11 23) (P.map (·.2)) ∧ M 11 24 = nI k ∧ k ≤ P.length
theorem MP.a {M : Mem} {P : List (Int32 × Int32)} {k : Nat} (h : MP M P k) : Lst (M 42) (M 11 23) (P.map (·.1)) := h.1
theorem MP.b {M : Mem} {P : List (Int32 × Int32)} {k : Nat} (h : MP M P k) : Lst (M 43) (M 11 23) (P.map (·.2)) := h.2.1
theorem MP.mt {M : Mem} {P : List (Int32 × Int32)} {k : Nat} (h : MP M P k) : M 11 24 = nI k := h.2.2.1
theorem MP.le {M : Mem} {P : List (Int32 × Int32)} {k : Nat} (h : MP M P k) : k ≤ P.length := h.2.2.2
theorem getD_map1 (P : List (Int32 × Int32)) (k : Nat) : (P.map (·.1)).getD k 0 = (P.getD k (0, 0)).1 := by
  rw [List.getD_eq_getElem?_getD, List.getElem?_map, List.getD_eq_getElem?_getD]; cases P[k]? <;> rfl
theorem getD_map2 (P : List (Int32 × Int32)) (k : Nat) : (P.map (·.2)).getD k 0 = (P.getD k (0, 0)).2 := by
  rw [List.getD_eq_getElem?_getD, List.getElem?_map, List.getD_eq_getElem?_getD]; cases P[k]? <;> rfl
theorem MP.len {M : Mem} {P : List (Int32 × Int32)} {k : Nat} (h : MP M P k) : P.length ≤ 8 ∧ M 11 23 = nI P.length := by
  have h1 := h.a.2.1
  have h2 := h.a.1
  rw [List.length_map] at h1 h2
  exact ⟨h1, h2⟩
theorem MP.eq {M : Mem} {P : List (Int32 × Int32)} {k : Nat} (h : MP M P k) : M 11 24 = M 11 23 ↔ k = P.length := by
  rw [h.mt, h.len.2]
  have := h.len.1
  have := h.le
  exact nI_eq (by omega) (by omega)
theorem MP.ix {M : Mem} {P : List (Int32 × Int32)} {k : Nat} (h : MP M P k) (hk : k < P.length) : vp_in (M 11 24) 8 ∧ M 42 (M 11 24).toNatClampNeg = (P.getD k (0, 0)).1 ∧ M 43 (M 11 24).toNatClampNeg = (P.getD k (0, 0)).2 := by
  have := h.len.1
  rw [h.mt, nI_clamp (by omega)]
  refine ⟨vp_in_nI (by omega) (by decide), ?_, ?_⟩
  · rw [h.a.2.2 k (by rw [List.length_map]; exact hk), getD_map1]
  · rw [h.b.2.2 k (by rw [List.length_map]; exact hk), getD_map2]
def nxM (P : List (Int32 × Int32)) (k : Nat) (w : Int32) : Int32 := if k = P.length then -1 else if w = 0 then (P.getD k (0, 0)).1 else (P.getD k (0, 0)).2
theorem c_X8_next {l : Launch} (hl : l.stackTraces = false) (M : Mem) (o : Ou) {P : List (Int32 × Int32)} {k : Nat} (w : Int32) (hP : MP M P k) : Ct l 20 0 140 [.ref 11, .int w] M o (mF (kWh w) (nxM P k w) (thr M 0) M o) nX := by
  have hle := hP.le
  refine ct_plain hl ok140 (by decide) (by decide) rfl rfl (by decide) (Nat.le_of_ble_eq_true rfl) (fun G hG => hG 0 _ _ _ _ _ ?_)
  refine clI (c_X8_isWhich hl _ o w) (by decide) (by decide) ⟨fun h => ?_, fun h => ?_⟩
  · refine hG 9 _ _ _ _ _ ?_
    have hk : kWh w = 0 := by unfold kWh; rw [cond_n h]; rfl
    refine clI (c_X8_bad0 hl _ o _) (by decide) (by decide) ⟨fun _ => ?_, fun q => absurd rfl q⟩
    refine hG 15 _ _ _ _ _ ?_
    refine ⟨fun h2 => ?_, fun h2 => ?_⟩
    · refine hG 22 _ _ _ _ _ ?_
      have h2 : ¬ k = P.length := fun q => h2 (hP.eq.mpr q)
      have hx := hP.ix (by omega)
      refine ⟨fun h3 => ?_, fun h3 => ?_⟩
      · refine hG 30 _ _ _ _ _ ?_
        exact ⟨hx.1, mF0' hk (by unfold nxM; rw [if_neg h2, if_neg h3]; exact hx.2.2) rfl, Nat.le_refl _⟩
      · refine ⟨hx.1, ?_⟩
        refine hG 35 _ _ _ _ _ ?_
        exact ⟨mF0' hk (by unfold nxM; rw [if_neg h2, if_pos h3]; exact hx.2.1) rfl, Nat.le_refl _⟩
    · refine hG 35 _ _ _ _ _ ?_
      have h2 : k = P.length := hP.eq.mp h2
      exact ⟨mF0' hk (by unfold nxM; rw [if_pos h2]) rfl, Nat.le_refl _⟩
  · refine hG 10 _ _ _ _ _ ?_
    have hk : kWh w = 1 := by unfold kWh; rw [cond_z h]; rfl
    refine clI (c_X8_bad1 hl _ o _) (by decide) (by decide) ⟨fun q => absurd q (by decide), fun _ => ?_⟩
    exact ⟨mF1 hk (by decide) 0, Nat.le_refl _⟩
def mOk (M : Mem) (t : Int32) : Prop := ∃ T, T < 8 ∧ t = nI T ∧ ∀ q, q < 4 → vp_in (M 37 (4 * T + q)) 32
theorem givT {l : Launch} (hl : l.stackTraces = false) (M : Mem) (o : Ou) {a b : Int32} (ha : mOk M a) (hb : mOk M b) : Ct l 9 0 141 [.ref 11, .int a, .int b] M o (rI (ghM (mSum M b - mSum M a) (M 11 9)) M o) nX := by
  obtain ⟨A, hA, rfl, mA⟩ := ha
  obtain ⟨B, hB, rfl, mB⟩ := hb
  have := c_X8_givenTo hl M o hA hB mA mB
  unfold mSum
  rw [nI_clamp (by omega), nI_clamp (by omega)]
  exact this
def gvM (s : Int32 → Int32) (c : Int32) (P : List (Int32 × Int32)) (k : Nat) (w : Int32) : Int32 := if k = P.length then -1 else if w = 0 then ghM (s (P.getD k (0, 0)).2 - s (P.getD k (0, 0)).1) c else ghM (s (P.getD k (0, 0)).1 - s (P.getD k (0, 0)).2) c
theorem c_X8_given {l : Launch} (hl : l.stackTraces = false) (M : Mem) (o : Ou) {P : List (Int32 × Int32)} {k : Nat} (w : Int32) (hP : MP M P k) (hm : k < P.length → mOk M (P.getD k (0, 0)).1 ∧ mOk M (P.getD k (0, 0)).2) : Ct l 20 0 142 [.ref 11, .int w] M o (mF (kWh w) (gvM (mSum M) (M 11 9) P k w) (thr M 0) M o) nX := by
  have hle := hP.le
  refine ct_plain hl ok142 (by decide) (by decide) rfl rfl (by decide) (Nat.le_of_ble_eq_true rfl) (fun G hG => hG 0 _ _ _ _ _ ?_)
  refine clI (c_X8_isWhich hl _ o w) (by decide) (by decide) ⟨fun h => ?_, fun h => ?_⟩
  · refine hG 9 _ _ _ _ _ ?_
    have hk : kWh w = 0 := by unfold kWh; rw [cond_n h]; rfl
    refine clI (c_X8_bad0 hl _ o _) (by decide) (by decide) ⟨fun _ => ?_, fun q => absurd rfl q⟩
    refine hG 15 _ _ _ _ _ ?_
    refine ⟨fun h2 => ?_, fun h2 => ?_⟩
    · refine hG 22 _ _ _ _ _ ?_
      have h2 : ¬ k = P.length := fun q => h2 (hP.eq.mpr q)
      have hx := hP.ix (by omega)
      have hm := hm (by omega)
      have e1 : (mset M 11 0 0) 42 ((mset M 11 0 0) 11 24).toNatClampNeg = (P.getD k (0, 0)).1 := hx.2.1
      have e2 : (mset M 11 0 0) 43 ((mset M 11 0 0) 11 24).toNatClampNeg = (P.getD k (0, 0)).2 := hx.2.2
      refine ⟨fun h3 => ?_, fun h3 => ?_⟩
      · refine hG 37 _ _ _ _ _ ?_
        refine ⟨hx.1, hx.1, ?_⟩
        rw [e1, e2]
        exact clI (givT hl (mset M 11 0 0) o hm.2 hm.1) (by decide) (by decide) ⟨mF0' hk (by unfold gvM; rw [if_neg h2, if_neg h3]; rfl) rfl, Nat.le_refl _⟩
      · refine ⟨hx.1, hx.1, ?_⟩
        rw [e1, e2]
        refine clI (givT hl (mset M 11 0 0) o hm.1 hm.2) (by decide) (by decide) ?_
        refine hG 49 _ _ _ _ _ ?_
        exact ⟨mF0' hk (by unfold gvM; rw [if_neg h2, if_pos h3]; rfl) rfl, Nat.le_refl _⟩
    · have h2 : k = P.length := hP.eq.mp h2
      exact ⟨mF0' hk (by unfold gvM; rw [if_pos h2]) rfl, Nat.le_refl _⟩
  · refine hG 10 _ _ _ _ _ ?_
    have hk : kWh w = 1 := by unfold kWh; rw [cond_z h]; rfl
    refine clI (c_X8_bad1 hl _ o _) (by decide) (by decide) ⟨fun q => absurd q (by decide), fun _ => ?_⟩
    exact ⟨mF1 hk (by decide) 0, Nat.le_refl _⟩
theorem c_X8_where {l : Launch} (hl : l.stackTraces = false) (M : Mem) (o : Ou) {n : Nat} (t : Int32) (hf : M 11 5 = nI n) (hn : n ≤ 8) : Ct l 20 0 144 [.ref 11, .int t] M o (mF (kTm t n) (if M 11 7 = 0 then 0 else M 45 t.toNatClampNeg) (thr M 0) M o) nX := by
  refine ct_plain hl ok144 (by decide) (by decide) rfl rfl (by decide) (Nat.le_of_ble_eq_true rfl) (fun G hG => hG 0 _ _ _ _ _ ?_)
  refine clI (c_X8_isTeam hl M o t hf (by omega)) (by decide) (by decide) ⟨fun h => ?_, fun h => ?_⟩
  · refine hG 6 _ _ _ _ _ ?_
    have hk : kTm t n = 0 := by unfold kTm; rw [cond_n h]; rfl
    have hin : vp_in t 8 := by
      obtain ⟨T, hT, rfl⟩ := vp_in_of (inB_e (cond_n h)) (by omega)
      exact vp_in_nI (by omega) (by decide)
    rw [hk]
    refine ⟨fun h2 => ?_, fun h2 => ⟨hin, ?_⟩⟩
    · refine hG 14 _ _ _ _ _ ?_
      exact ⟨mF0' hk (by rw [if_pos (show M 11 7 = 0 from h2)]) rfl, Nat.le_refl _⟩
    · refine hG 15 _ _ _ _ _ ?_
      exact ⟨mF0' hk (by rw [if_neg (show ¬ M 11 7 = 0 from h2)]; rfl) rfl, Nat.le_refl _⟩
  · have hk : kTm t n = 1 := by unfold kTm; rw [cond_z h]; rfl
    rw [hk]
    exact ⟨mF1' rfl (by decide), Nat.le_refl _⟩
theorem c_X8_row {l : Launch} (hl : l.stackTraces = false) (M : Mem) (o : Ou) {W H : List Int32} (w k : Int32) (hW : Lst (M 40) (M 11 18) W) (hH : Lst (M 41) (M 11 19) H) : Ct l 20 0 145 [.ref 11, .int w, .int k] M o (mF (kWh w) (if w = 0 then atI W k else atI H k) (thr M 0) M o) nX := by
  have w8 := hW.2.1
  have h8 := hH.2.1
  refine ct_plain hl ok145 (by decide) (by decide) rfl rfl (by decide) (Nat.le_of_ble_eq_true rfl) (fun G hG => hG 0 _ _ _ _ _ ?_)
  refine clI (c_X8_isWhich hl _ o w) (by decide) (by decide) ⟨fun h => ?_, fun h => ?_⟩
  · refine hG 9 _ _ _ _ _ ?_
    have hk : kWh w = 0 := by unfold kWh; rw [cond_n h]; rfl
    refine clI (c_X8_bad0 hl _ o _) (by decide) (by decide) ⟨fun _ => ?_, fun q => absurd rfl q⟩
    refine hG 15 _ _ _ _ _ ?_
    have atv : ∀ xs : List Int32, xs.length ≤ 8 → ¬ k < 0 → k < nI xs.length → ∃ j, j < xs.length ∧ k = nI j ∧ atI xs k = xs.getD j 0 := by
      intro xs hx h1 h2
      obtain ⟨j, hj, rfl⟩ := nI_of h1
      have hj2 := (nI_ltI hj (by omega)).mp h2
      refine ⟨j, hj2, rfl, ?_⟩
      rw [atI_n _ hx hj]; exact if_pos hj2
    refine ⟨fun h2 => ?_, fun h2 => ⟨fun h3 => ?_, fun h3 => ?_⟩⟩
    · refine hG 26 _ _ _ _ _ ?_
      refine hG 39 _ _ _ _ _ ?_
      refine ⟨mF0' hk ?_ rfl, Nat.le_refl _⟩
      split
      · unfold atI; rw [if_pos (Or.inl h2)]
      · unfold atI; rw [if_pos (Or.inl h2)]
    · refine hG 23 _ _ _ _ _ ?_
      refine ⟨fun h4 => ?_, fun h4 => ?_⟩
      · refine hG 28 _ _ _ _ _ ?_
        refine ⟨fun _ => ?_, fun q => absurd q h3⟩
        refine hG 35 _ _ _ _ _ ?_
        obtain ⟨j, hj, rfl, he⟩ := atv H h8 h2 (by rw [← hH.1]; exact h4)
        exact ⟨hH.in8 hj, mF0' hk (by rw [if_neg h3, he]; exact hH.at hj) rfl, Nat.le_refl _⟩
      · refine hG 39 _ _ _ _ _ ?_
        refine ⟨mF0' hk ?_ rfl, Nat.le_refl _⟩
        rw [if_neg h3]
        unfold atI; rw [if_pos (Or.inr (by rw [← hH.1]; exact Int32.not_lt.mp h4))]
    · refine hG 25 _ _ _ _ _ ?_
      refine ⟨fun h4 => ?_, fun h4 => ?_⟩
      · refine hG 28 _ _ _ _ _ ?_
        refine ⟨fun q => absurd h3 q, fun _ => ?_⟩
        obtain ⟨j, hj, rfl, he⟩ := atv W w8 h2 (by rw [← hW.1]; exact h4)
        refine ⟨hW.in8 hj, ?_⟩
        refine hG 39 _ _ _ _ _ ?_
        exact ⟨mF0' hk (by rw [if_pos h3, he]; exact hW.at hj) rfl, Nat.le_refl _⟩
      · refine hG 39 _ _ _ _ _ ?_
        refine ⟨mF0' hk ?_ rfl, Nat.le_refl _⟩
        rw [if_pos h3]
        unfold atI; rw [if_pos (Or.inr (by rw [← hW.1]; exact Int32.not_lt.mp h4))]
  · refine hG 10 _ _ _ _ _ ?_
    have hk : kWh w = 1 := by unfold kWh; rw [cond_z h]; rfl
    refine clI (c_X8_bad1 hl _ o _) (by decide) (by decide) ⟨fun q => absurd q (by decide), fun _ => ?_⟩
    exact ⟨mF1 hk (by decide) 0, Nat.le_refl _⟩
/-- what the reference's draw leaves, before its round begins -/
abbrev drZ (M : Mem) (f : Nat → Int32) (p : Nat → Int32) (e : Nat) : Mem := mrow (mset (mset (mset (mset (mrow M 40 f) 11 15 0) 11 7 1) 11 18 (nI e)) 11 19 0) 45 p
def z8 (f : Nat → Int32) : Nat → Int32 := fun q => if q < 8 then 0 else f q
def mdR (M : Mem) (E : List Int32) (n k : Nat) : Mem → Prop := fun M' => if k = 0 then (if 2 ≤ E.length ∧ E.length - 1 ≤ n then ∃ f a b, M' = bgM (drZ (thr M 0) f (z8 (M 45)) E.length) (plcF (z8 (M 45)) E (shF (M 39) (E.length - 1) 0 E) []) (M 11 10 + 1) a b (prs (shF (M 39) (E.length - 1) 0 E) []).length ∧ Lst f (nI E.length) (shF (M 39) (E.length - 1) 0 E) ∧ Lst a (nI (prs (shF (M 39) (E.length - 1) 0 E) []).length) ((prs (shF (M 39) (E.length - 1) 0 E) []).map (·.1)) ∧ Lst b (nI (prs (shF (M 39) (E.length - 1) 0 E) []).length) ((prs (shF (M 39) (E.length - 1) 0 E) []).map (·.2)) else M' = thr M 0) else M' = thr M k
abbrev mKD (M : Mem) : Nat := kDr (M 11 6) (M 11 7)
theorem swp_mem {xs : List Int32} {a b : Nat} (ha : a < xs.length) (hb : b < xs.length) {x : Int32} (h : x ∈ swp xs a b) : x ∈ xs := by
  unfold swp at h
  rcases List.mem_or_eq_of_mem_set h with h | h
  · rcases List.mem_or_eq_of_mem_set h with h | h
    · exact h
    · rw [h]; exact getD_mem hb
  · rw [h]; exact getD_mem ha
theorem shF_mem (v : Nat → Int32) : ∀ i u xs, i < xs.length → xs.length ≤ 8 → ∀ x, x ∈ shF v i u xs → x ∈ xs := by
  intro i
  induction i with
  | zero => intro u xs _ _ x h; exact h
  | succ i ih =>
    intro u xs hi h8 x h
    unfold shF at h
    have hr := (rmN_eq (v u) (d := i + 2) (by omega) (by omega)).2
    exact swp_mem (by omega) (by omega) (ih _ _ (by rw [swp_len]; omega) (by rw [swp_len]; omega) x h)
theorem z8_fill (f : Nat → Int32) : (fun q => if q < 8 then 0 else f q) = z8 f := rfl
theorem c_X8_draw {l : Launch} (hl : l.stackTraces = false) (M : Mem) (o : Ou) {n : Nat} {E : List Int32} (hf : M 11 15 = nI n) (hn : n ≤ 20) (hE : Lst (M 38) (M 11 13) E) (ei : ∀ x ∈ E, vp_in x 8) : Ct l 20 0 134 [.ref 11] M o (fun v M' o' => v = some (.int (if mKD M = 0 then drV E.length n else 0)) ∧ mdR M E n (mKD M) M' ∧ o' = o) nX := by
  have e8 := hE.2.1
  refine ct_plain hl ok134 (by decide) (by decide) rfl rfl (by decide) (Nat.le_of_ble_eq_true rfl) (fun G hG => hG 0 _ _ _ _ _ ?_)
  have no : ¬ undr (M 11 6) (M 11 7) → XS l 20 0 e134 (fun v M' o' => v = some (.int (if mKD M = 0 then drV E.length n else 0)) ∧ mdR M E n (mKD M) M' ∧ o' = o) nX G 10 [some (.ref 11), none, none, none, none] [.ref 11] (mset M 11 0 0) o 0 := by
    intro h
    have hk : mKD M = 1 := by unfold mKD kDr; rw [if_neg h]
    refine hG 13 _ _ _ _ _ ?_
    refine clI (c_X8_bad1 hl _ o _) (by decide) (by decide) ⟨fun q => absurd q (by decide), fun _ => ?_⟩
    refine ⟨⟨by rw [hk]; rfl, ?_, rfl⟩, Nat.le_refl _⟩
    unfold mdR
    rw [hk, if_neg (by decide)]
    exact thr_thr M 0 1
  refine ⟨fun h => hG 10 _ _ _ _ _ (no (fun q => q.1 h)), fun h1 => ⟨fun h2 => ?_, fun h => no (fun q => h q.2)⟩⟩
  have hk : mKD M = 0 := by unfold mKD kDr; rw [if_pos ⟨h1, h2⟩]
  rw [hk, if_pos rfl] at hG
  refine hG 12 _ _ _ _ _ ?_
  refine clI (c_X8_bad0 hl _ o _) (by decide) (by decide) ⟨fun _ => ?_, fun q => absurd rfl q⟩
  refine hG 18 _ _ _ _ _ ?_
  refine ⟨fun h => ?_, fun h => ?_⟩
  rotate_left
  · rw [show mset M 11 0 0 11 13 = nI E.length from hE.1] at h
    have h : ¬ 2 ≤ E.length := fun q => h (nI_le (a := 2) q (by omega))
    refine ⟨⟨by unfold drV; rw [if_pos (by omega)], ?_, rfl⟩, Nat.le_refl _⟩
    unfold mdR
    rw [if_pos rfl, if_neg (fun q => h q.1)]; rfl
  rw [show mset M 11 0 0 11 13 = nI E.length from hE.1] at h
  have h : 2 ≤ E.length := (nI_leI (a := 2) (by decide) (by omega)).mp h
  have e1 : nI E.length - 1 = nI (E.length - 1) := by rw [← nI_pred (E.length - 1), show E.length - 1 + 1 = E.length by omega]
  refine hG 24 _ _ _ _ _ ?_
  refine ⟨fun h3 => ?_, fun h3 => ?_⟩
  rotate_left
  · rw [show mset M 11 0 0 11 13 = nI E.length from hE.1, show mset M 11 0 0 11 15 = nI n from hf, e1] at h3
    have h3 : ¬ E.length - 1 ≤ n := fun q => h3 (nI_le q (by omega))
    refine ⟨⟨by unfold drV; rw [if_neg (by omega), if_pos (by omega)], ?_, rfl⟩, Nat.le_refl _⟩
    unfold mdR
    rw [if_pos rfl, if_neg (fun q => h3 q.2)]; rfl
  rw [show mset M 11 0 0 11 13 = nI E.length from hE.1, show mset M 11 0 0 11 15 = nI n from hf, e1] at h3
  have h3 : E.length - 1 ≤ n := (nI_leI (by omega) (by omega)).mp h3
  refine hG 33 _ _ _ _ _ ?_
  -- the places are emptied, and the round begins
  have k111 : ∀ u f, Lst f (nI E.length) (shF (M 39) (E.length - 1) 0 E) → ∀ (c d : Option Value) m j, j + m = 8 → G 111 [some (.ref 11), some (.int u), some (.int (nI j)), c, d] [] (drZ (thr M 0) f (fun q => if q < j then 0 else M 45 q) E.length) o 0 := by
    intro u f hx c d m
    induction m with
    | zero =>
      intro j hj
      have : j = 8 := by omega
      subst this
      refine hG 111 _ _ _ _ _ ?_
      refine ⟨fun _ => ?_, fun h => absurd (by decide) h⟩
      refine hG 121 _ _ _ _ _ ?_
      have hlen := shF_len (M 39) (E.length - 1) 0 E
      have hR : MR (drZ (thr M 0) f (z8 (M 45)) E.length) E (shF (M 39) (E.length - 1) 0 E) [] := ⟨hE, hx, Lst.nil, ei, fun x hx => ei x (shF_mem _ _ _ _ (by omega) e8 x hx), fun x hx => absurd hx List.not_mem_nil, by rw [hlen]; exact e8⟩
      refine clP (c_X8_begins hl _ o hR) (by decide) (by decide) (fun v M' o' q => ?_) (fun _ _ _ q => q.elim)
      obtain ⟨rfl, rfl, a, b, rfl, ha, hb⟩ := q
      have e2 : rdF (shF (M 39) (E.length - 1) 0 E) [] (M 11 10) = M 11 10 + 1 := by
        unfold rdF; rw [hlen, if_neg (by show ¬ E.length + 0 = 1; omega)]
      refine ⟨⟨by show some (Value.int (M 11 13)) = _; unfold drV; rw [if_neg (by omega), if_neg (by omega), hE.1], ?_, rfl⟩, Nat.le_refl _⟩
      unfold mdR
      rw [if_pos rfl, if_pos ⟨h, h3⟩]
      refine ⟨f, a, b, ?_, hx, ha, hb⟩
      rw [← e2]; rfl
    | succ m ih =>
      intro j hj
      refine hG 111 _ _ _ _ _ ?_
      refine ⟨fun h => absurd h (nI_ge (a := j) (b := 8) (by omega) (by decide)), fun _ => ⟨vp_in_nI (show j < 8 by omega) (by decide), ?_⟩⟩
      have hnx := ih (j + 1) (by omega)
      rw [← nI_1] at hnx
      rw [nI_clamp (by omega), mset_mrow, upd_fill]
      exact hnx
  -- the numbers
  have k58 : ∀ i u f xs, i + u + 1 = E.length → Lst f (nI E.length) xs → shF (M 39) (E.length - 1) 0 E = shF (M 39) i u xs → ∀ c d, G 58 [some (.ref 11), some (.int (nI u)), some (.int (nI i)), c, d] [] (mrow (thr M 0) 40 f) o 0 := by
    intro i
    induction i with
    | zero =>
      intro u f xs hu hx he c d
      refine hG 58 _ _ _ _ _ ?_
      refine ⟨fun _ => ?_, fun h => absurd (by decide) h⟩
      refine hG 95 _ _ _ _ _ ?_
      have := k111 (nI u) f (by rw [he]; exact hx) c d 8 0 (by omega)
      rw [show (fun q => if q < 0 then 0 else M 45 q) = M 45 by funext q; simp] at this
      have e4 : drZ (thr M 0) f (M 45) E.length = mset (mset (mset (mset (mrow (thr M 0) 40 f) 11 15 0) 11 7 1) 11 18 (nI E.length)) 11 19 0 := mrow_self (mset (mset (mset (mset (mrow (thr M 0) 40 f) 11 15 0) 11 7 1) 11 18 (nI E.length)) 11 19 0) 45
      rw [e4, ← hE.1] at this
      exact ⟨bz1, this⟩
    | succ i ih =>
      intro u f xs hu hx he c d
      have hxl : xs.length = E.length := (nI_inj (by omega) (by have := hx.2.1; omega) hx.1).symm
      have hr := rmN_eq (M 39 u) (d := i + 2) (by omega) (by omega)
      have e5 : nI (i + 1) + 1 = nI (i + 2) := nI_1 (i + 1)
      refine hG 58 _ _ _ _ _ ?_
      refine ⟨fun h => absurd h (nI_nle (by omega) (by omega)), fun _ => ⟨vp_in_nI (show u < 20 by omega) (by decide), ?_, ?_⟩⟩
      · rw [e5, nI_l (by omega)]
        intro q
        have := (lN_eq (a := i + 2) (b := 0) (by omega) (by decide)).mp q
        omega
      · have e6 : ∀ v : Int32, ((v.toInt64 &&& 4294967295) - (v.toInt64 &&& 4294967295) / (nI (i + 1) + 1).toInt64 * (nI (i + 1) + 1).toInt64).toInt32 = rmF v (nI (i + 2)) := fun v => by rw [e5]; rfl
        have e7 : mrow (thr M 0) 40 f 39 (nI u).toNatClampNeg = M 39 u := by rw [nI_clamp (by omega)]; rfl
        refine ⟨vp_in_nI (show i + 1 < 8 by omega) (by decide), ?_⟩
        rw [e7]
        refine ⟨?_, vp_in_nI (show i + 1 < 8 by omega) (by decide), ?_, ?_⟩
        · show vp_in (((M 39 u).toInt64 &&& 4294967295) - ((M 39 u).toInt64 &&& 4294967295) / (nI (i + 1) + 1).toInt64 * (nI (i + 1) + 1).toInt64).toInt32 8
          rw [e6, hr.1]; exact vp_in_nI (by omega) (by decide)
        · show vp_in (((M 39 u).toInt64 &&& 4294967295) - ((M 39 u).toInt64 &&& 4294967295) / (nI (i + 1) + 1).toInt64 * (nI (i + 1) + 1).toInt64).toInt32 8
          rw [e6, hr.1]; exact vp_in_nI (by omega) (by decide)
        · have hnx := ih (u + 1) _ _ (by omega) (hx.swp (a := i + 1) (b := rmN (M 39 u) (i + 2)) (by omega) (by omega)) he
          rw [← nI_1, ← pk_m1 i] at hnx
          show G 58 [some (.ref 11), some (.int (nI u + 1)), some (.int (nI (i + 1) + -1)), some (.int (((M 39 u).toInt64 &&& 4294967295) - ((M 39 u).toInt64 &&& 4294967295) / (nI (i + 1) + 1).toInt64 * (nI (i + 1) + 1).toInt64).toInt32), some (.int (mrow (thr M 0) 40 f 40 (nI (i + 1)).toNatClampNeg))] [] (mset (mset (mrow (thr M 0) 40 f) 40 (nI (i + 1)).toNatClampNeg (f ((((M 39 u).toInt64 &&& 4294967295) - ((M 39 u).toInt64 &&& 4294967295) / (nI (i + 1) + 1).toInt64 * (nI (i + 1) + 1).toInt64).toInt32).toNatClampNeg)) 40 ((((M 39 u).toInt64 &&& 4294967295) - ((M 39 u).toInt64 &&& 4294967295) / (nI (i + 1) + 1).toInt64 * (nI (i + 1) + 1).toInt64).toInt32).toNatClampNeg (f (nI (i + 1)).toNatClampNeg)) o 0
          rw [e6, hr.1, nI_clamp (n := i + 1) (by omega), nI_clamp (n := rmN (M 39 u) (i + 2)) (by omega), mset_mrow, mset_mrow]
          exact hnx _ _
  have k36 : ∀ m j f, j + m = E.length → Lst f (nI j) (E.take j) → G 36 [some (.ref 11), some (.int (nI j)), none, none, none] [] (mrow (thr M 0) 40 f) o 0 := by
    intro m
    induction m with
    | zero =>
      intro j f hj hx
      refine hG 36 _ _ _ _ _ ?_
      refine ⟨fun _ => ?_, fun h => absurd (by rw [show mrow (thr M 0) 40 f 11 13 = nI E.length from hE.1]; exact nI_le (by omega) (by omega)) h⟩
      have : j = E.length := by omega
      subst this
      refine hG 50 _ _ _ _ _ ?_
      rw [List.take_length] at hx
      have := k58 (E.length - 1) 0 f E (by omega) hx rfl none none
      rw [← e1, ← hE.1] at this
      exact this
    | succ m ih =>
      intro j f hj hx
      have hlt : j < E.length := by omega
      have hl2 : (E.take j).length = j := by rw [List.length_take]; omega
      refine hG 36 _ _ _ _ _ ?_
      refine ⟨fun h => absurd (by rw [show mrow (thr M 0) 40 f 11 13 = nI E.length from hE.1] at h; exact h) (nI_ge (a := j) (b := E.length) (by omega) (by omega)), fun _ => ⟨hE.in8 hlt, hE.in8 hlt, ?_⟩⟩
      have h1 := hx.app (by rw [hl2]; omega) (E.getD j 0)
      rw [← take_snoc E hlt, hl2] at h1
      have hnx := ih (j + 1) _ (by omega) h1
      rw [← nI_1] at hnx
      rw [show mrow (thr M 0) 40 f 38 (nI j).toNatClampNeg = E.getD j 0 from hE.at hlt, nI_clamp (by omega), mset_mrow]
      exact hnx
  have := k36 E.length 0 (M 40) (by omega) (by rw [List.take_zero]; exact Lst.nil)
  rw [show mrow (thr M 0) 40 (M 40) = thr M 0 from mrow_self (thr M 0) 40] at this
  exact this
