/-! CONTRACTS: the stable's and the line's faces, on both sides. -/
def kPo (p : Int32) (n m c : Nat) : Nat := cond (inB p n) (if m < 60 ∧ c < 8 then 0 else 2) 1
abbrev cPo (M : Mem) (m : Nat) (p : Int32) : Mem := mset (mset M 20 m p) 8 4 (nI (m + 1))
abbrev mPo (M : Mem) (m : Nat) (p : Int32) : Mem := mset (mset M 46 m p) 11 30 (nI (m + 1))
theorem c_X7_pony {l : Launch} (hl : l.stackTraces = false) (M : Mem) (o : Ou) {n m : Nat} (p : Int32) (hf : M 1 3 = nI n) (hn : n ≤ 32) (hm : M 8 4 = nI m) (h60 : m ≤ 60) : Ct l 20 8 98 [.ref 0, .int p] M o (rF (kPo p n m (cntN (M 20) p m)) (nI m) (eF (kPo p n m (cntN (M 20) p m)) (cPo M m p) M) o) (xF IOB ISE (kPo p n m (cntN (M 20) p m)) (eF (kPo p n m (cntN (M 20) p m)) (cPo M m p) M) o) := by
  have hc := cntN_le (M 20) p m
  have hco := c_X5_poniesOf hl M o p hm h60
  generalize cntN (M 20) p m = c at hc hco ⊢
  refine ct_plain hl ok98 (by decide) (by decide) rfl rfl (by decide) (Nat.le_of_ble_eq_true rfl) (fun G hG => hG 0 _ _ _ _ _ ?_)
  refine clR (c_X7_requirePlayer hl M o p hf (by omega)) (by decide) (by decide) (fun hp => ?_) (fun hp => ?_)
  · have no : ¬ (m < 60 ∧ c < 8) → kPo p n m c = 2 := fun h => by unfold kPo; rw [inB_t hp, if_neg h]; rfl
    refine clI (c_X5_isFull hl M o) (by decide) (by decide) ⟨fun h => ?_, fun h => ?_⟩
    · refine hG 13 _ _ _ _ _ ?_
      have hk := no (fun q => h (by rw [hm, if_pos (show nI m < 60 from nI_lt (a := m) (b := 60) q.1 (by decide))]))
      exact ⟨⟨Or.inr ⟨hk, rfl⟩, eF2 hk, rfl⟩, by decide⟩
    · have h6 : m < 60 := by
        rcases Nat.lt_or_ge m 60 with q | q
        · exact q
        · rw [hm, if_neg (show ¬ nI m < 60 from nI_nlt (a := m) (b := 60) q (by omega))] at h
          exact absurd h (by decide)
      refine clI hco (by decide) (by decide) ⟨fun h2 => ?_, fun h2 => ?_⟩
      · refine hG 18 _ _ _ _ _ ?_
        have h8 : c < 8 := (nI_ltI (b := 8) (by omega) (by decide)).mp h2
        have hk : kPo p n m c = 0 := by unfold kPo; rw [inB_t hp, if_pos ⟨h6, h8⟩]; rfl
        exact clI (c_X5_addPony hl M o p hm h6) (by decide) (by decide) ⟨⟨hk, rfl, eF0 hk, rfl⟩, by decide⟩
      · have hk := no (fun q => h2 (show nI c < 8 from nI_lt (a := c) (b := 8) q.2 (by decide)))
        exact ⟨⟨Or.inr ⟨hk, rfl⟩, eF2 hk, rfl⟩, by decide⟩
  · have hk : kPo p n m c = 1 := by unfold kPo; rw [inB_f hp]; rfl
    exact ⟨⟨Or.inl ⟨hk, rfl⟩, eF1 hk, rfl⟩, by decide⟩
theorem c_X8_pony {l : Launch} (hl : l.stackTraces = false) (M : Mem) (o : Ou) {n m : Nat} (p : Int32) (hf : M 11 3 = nI n) (hn : n ≤ 32) (hm : M 11 30 = nI m) (h60 : m ≤ 60) (h8 : cntN (M 46) p m ≤ 8) : Ct l 20 0 146 [.ref 11, .int p] M o (mF (kPo p n m (cntN (M 46) p m)) (nI m) (mPo (thr M 0) m p) M o) nX := by
  refine ct_plain hl ok146 (by decide) (by decide) rfl rfl (by decide) (Nat.le_of_ble_eq_true rfl) (fun G hG => hG 0 _ _ _ _ _ ?_)
  have key : ∀ q j, j + q = m → G 8 [some (.ref 11), some (.int p), some (.int (nI (cntN (M 46) p j))), some (.int (nI j))] [] (mset M 11 0 0) o 0 := by
    intro q
    induction q with
    | zero =>
      intro j hj
      have : j = m := by omega
      subst this
      generalize cntN (M 46) p j = c at h8 hG ⊢
      refine hG 8 _ _ _ _ _ ?_
      refine ⟨fun _ => ?_, fun h => absurd (by rw [show mset M 11 0 0 11 30 = nI j from hm]; exact nI_le (by omega) (by omega)) h⟩
      refine hG 26 _ _ _ _ _ ?_
      refine clI (c_X8_isPlayer (n := n) hl _ o p hf (by omega)) (by decide) (by decide) ⟨fun h => ?_, fun h => ?_⟩
      · refine hG 33 _ _ _ _ _ ?_
        have hp := cond_n h
        have no : ¬ (j < 60 ∧ c < 8) → XS l 20 0 e146 (mF (kPo p n j c) (nI j) (mPo (thr M 0) j p) M o) nX G 45 [some (.ref 11), some (.int p), some (.int (nI c)), some (.int (nI j))] [.ref 11] (mset M 11 0 0) o 0 := by
          intro h
          have hk : kPo p n j c = 2 := by unfold kPo; rw [hp, if_neg h]; rfl
          refine hG 48 _ _ _ _ _ ?_
          refine clI (c_X8_bad1 hl _ o _) (by decide) (by decide) ⟨fun q => absurd q (by decide), fun _ => ?_⟩
          exact ⟨mF1 hk (by decide) 0, Nat.le_refl _⟩
        refine clI (c_X8_bad0 hl _ o _) (by decide) (by decide) ⟨fun q => absurd rfl q, fun _ => ⟨fun h2 => hG 45 _ _ _ _ _ (no ?_), fun h2 => ⟨fun h3 => ?_, fun h3 => no ?_⟩⟩⟩
        · have h2 : M 11 30 = 60 := h2
          intro q
          exact absurd (nI_inj (a := j) (b := 60) (by omega) (by decide) (by rw [← hm, h2]; decide)) (by omega)
        · refine hG 47 _ _ _ _ _ ?_
          have h2 : ¬ M 11 30 = 60 := h2
          have h6 : j < 60 := by
            rcases Nat.lt_or_ge j 60 with q | q
            · exact q
            · exact absurd (by rw [hm, show j = 60 by omega]; rfl) h2
          have h8 : c < 8 := by
            rcases Nat.lt_or_ge c 8 with q | q
            · exact q
            · exact absurd (by rw [show c = 8 by omega]; rfl) h3
          have hk : kPo p n j c = 0 := by unfold kPo; rw [hp, if_pos ⟨h6, h8⟩]; rfl
          refine clI (c_X8_bad0 hl _ o _) (by decide) (by decide) ⟨fun _ => ?_, fun q => absurd rfl q⟩
          refine hG 53 _ _ _ _ _ ?_
          have e1 : M 11 30 + 1 = nI (j + 1) := by rw [hm, nI_1]
          have e2 : (M 11 30).toNatClampNeg = j := by rw [hm, nI_clamp (by omega)]
          refine ⟨by rw [show mset M 11 0 0 11 30 = nI j from hm]; exact vp_in_nI (show j < 60 by omega) (by decide), mF0' hk ?_ ?_, Nat.le_refl _⟩
          · show M 11 30 + 1 - 1 = _
            rw [hm, nI_1, nI_pred]
          · show mset (mset _ _ (M 11 30).toNatClampNeg p) _ _ (M 11 30 + 1) = _
            rw [e1, e2]; rfl
        · intro q
          exact absurd (nI_inj (a := c) (b := 8) (by omega) (by decide) h3) (by omega)
      · refine hG 34 _ _ _ _ _ ?_
        have hk : kPo p n j c = 1 := by unfold kPo; rw [cond_z h]; rfl
        refine clI (c_X8_bad1 hl _ o _) (by decide) (by decide) ⟨fun _ => ?_, fun q => absurd q (by decide)⟩
        refine hG 51 _ _ _ _ _ ?_
        exact ⟨mF1 hk (by decide) 0, Nat.le_refl _⟩
    | succ q ih =>
      intro j hj
      refine hG 8 _ _ _ _ _ ?_
      have hnx := ih (j + 1) (by omega)
      refine ⟨fun h => absurd (by rw [← show mset M 11 0 0 11 30 = nI m from hm]; exact h) (nI_ge (a := j) (b := m) (by omega) (by omega)), fun _ => ⟨vp_in_nI (show j < 60 by omega) (by decide), fun h => ?_, fun h => ?_⟩⟩
      · refine hG 21 _ _ _ _ _ ?_
        have h : ¬ M 46 j = p := by rw [nI_clamp (by omega)] at h; exact h
        rw [cntN, if_neg h, Nat.add_zero, ← nI_1, ← Int32.add_zero (nI (cntN (M 46) p j))] at hnx
        exact hnx
      · refine hG 22 _ _ _ _ _ ?_
        have h : M 46 j = p := by rw [nI_clamp (by omega)] at h; exact h
        rw [cntN, if_pos h, ← nI_1, ← nI_1] at hnx
        exact hnx
  exact key m 0 (by omega)
def kPn (t : Int32) (n : Nat) : Nat := cond (inB t n) 0 1
theorem c_X8_isPony {l : Launch} (hl : l.stackTraces = false) (M : Mem) (o : Ou) {n : Nat} (v : Int32) (hf : M 11 30 = nI n) (hn : n < 2 ^ 31) : Ct l 8 0 147 [.ref 11, .int v] M o (rI (cond (inB v n) 1 0) (thr M (kPn v n)) o) nX := by
  refine ct_plain hl ok147 (by decide) (by decide) rfl rfl (by decide) (Nat.le_of_ble_eq_true rfl) (fun G hG => hG 0 _ _ _ _ _ ?_)
  have no : ¬ vp_in v n → G 7 [some (.ref 11), some (.int v)] [.ref 11] M o 0 := by
    intro h
    have hk : kPn v n = 1 := by unfold kPn; rw [inB_f h]; rfl
    refine hG 7 _ _ _ _ _ ?_
    refine hG 10 _ _ _ _ _ ?_
    refine ⟨fun _ => ?_, fun q => absurd q (by rw [mset_same]; decide)⟩
    refine hG 16 _ _ _ _ _ ?_
    exact ⟨bz0, ⟨by rw [inB_f h]; rfl, by rw [hk]; rfl, rfl⟩, Nat.le_refl _⟩
  refine ⟨fun h => no (in_neg hn h), fun h => ⟨fun h2 => ?_, fun h2 => ?_⟩⟩
  · refine hG 9 _ _ _ _ _ ?_
    rw [hf] at h2
    have h : vp_in v n := in_lt hn h (Int32.not_le.mpr h2)
    have hk : kPn v n = 0 := by unfold kPn; rw [inB_t h]; rfl
    refine ⟨fun q => absurd (by rw [mset_same]) q, fun _ => ?_⟩
    refine hG 17 _ _ _ _ _ ?_
    exact ⟨bz1, ⟨by rw [inB_t h]; rfl, by rw [hk]; rfl, rfl⟩, Nat.le_refl _⟩
  · rw [hf] at h2
    have h := in_ge hn (Int32.not_lt.mp h2)
    have hk : kPn v n = 1 := by unfold kPn; rw [inB_f h]; rfl
    refine hG 10 _ _ _ _ _ ?_
    refine ⟨fun _ => ?_, fun q => absurd q (by rw [mset_same]; decide)⟩
    refine hG 16 _ _ _ _ _ ?_
    exact ⟨bz0, ⟨by rw [inB_f h]; rfl, by rw [hk]; rfl, rfl⟩, Nat.le_refl _⟩
def kLa (p t : Int32) (n : Nat) : Nat := cond (inB p n) (cond (wiF t 0 100000) 0 2) 1
theorem in60 {v : Int32} {n : Nat} (hn : n ≤ 60) (h : vp_in v n) : vp_in v 60 := by
  obtain ⟨j, hj, rfl⟩ := vp_in_of h (by omega)
  exact vp_in_nI (by omega) (by decide)
theorem c_X7_lame {l : Launch} (hl : l.stackTraces = false) (M : Mem) (o : Ou) {n : Nat} (p t : Int32) (hf : M 8 4 = nI n) (hn : n ≤ 60) : Ct l 20 8 99 [.ref 0, .int p, .int t] M o (rF (kLa p t n) (if t ≤ M 8 5 then 0 else 1) (eF (kLa p t n) (mset M 23 p.toNatClampNeg t) M) o) (xF IOB IAE (kLa p t n) (eF (kLa p t n) (mset M 23 p.toNatClampNeg t) M) o) := by
  refine ct_plain hl ok99 (by decide) (by decide) rfl rfl (by decide) (Nat.le_of_ble_eq_true rfl) (fun G hG => hG 0 _ _ _ _ _ ?_)
  refine clR (c_X7_requirePony hl M o p hf (by omega)) (by decide) (by decide) (fun hp => ?_) (fun hp => ?_)
  · refine clI (c_X7_within hl M o _ _ _) (by decide) (by decide) ⟨fun h => ?_, fun h => ?_⟩
    · refine hG 13 _ _ _ _ _ ?_
      have hk : kLa p t n = 0 := by unfold kLa; rw [inB_t hp, cond_n h]; rfl
      refine clI (c_X5_layUp hl M o p t (in60 hn hp)) (by decide) (by decide) ⟨?_, ⟨hk, rfl, eF0 hk, rfl⟩, by decide⟩
      split
      · exact bz0
      · exact bz1
    · have hk : kLa p t n = 2 := by unfold kLa; rw [inB_t hp, cond_z h]; rfl
      exact ⟨⟨Or.inr ⟨hk, rfl⟩, eF2 hk, rfl⟩, by decide⟩
  · have hk : kLa p t n = 1 := by unfold kLa; rw [inB_f hp]; rfl
    exact ⟨⟨Or.inl ⟨hk, rfl⟩, eF1 hk, rfl⟩, by decide⟩
theorem c_X8_lame {l : Launch} (hl : l.stackTraces = false) (M : Mem) (o : Ou) {n : Nat} (p t : Int32) (hf : M 11 30 = nI n) (hn : n ≤ 60) : Ct l 20 0 148 [.ref 11, .int p, .int t] M o (mF (kLa p t n) (if t ≤ M 11 31 then 0 else 1) (mset (thr M 0) 49 p.toNatClampNeg t) M o) nX := by
  refine ct_plain hl ok148 (by decide) (by decide) rfl rfl (by decide) (Nat.le_of_ble_eq_true rfl) (fun G hG => hG 0 _ _ _ _ _ ?_)
  refine clI (c_X8_isPony hl M o p hf (by omega)) (by decide) (by decide) ⟨fun h => ?_, fun h => ?_⟩
  · refine hG 16 _ _ _ _ _ ?_
    have hk : kLa p t n = 1 := by unfold kLa; rw [cond_z h]; rfl
    have hk2 : kPn p n = 1 := by unfold kPn; rw [cond_z h]; rfl
    rw [hk2]
    exact ⟨bz0, mF1' hk (by decide), Nat.le_refl _⟩
  · have hp := cond_n h
    have hk2 : kPn p n = 0 := by unfold kPn; rw [hp]; rfl
    have no : wiF t 0 100000 = false → XS l 20 0 e148 (mF (kLa p t n) (if t ≤ M 11 31 then 0 else 1) (mset (thr M 0) 49 p.toNatClampNeg t) M o) nX G 10 [some (.ref 11), some (.int p), some (.int t)] [.ref 11] (thr M (kPn p n)) o 0 := by
      intro h
      have hk : kLa p t n = 2 := by unfold kLa; rw [hp, h]; rfl
      refine hG 13 _ _ _ _ _ ?_
      refine clI (c_X8_bad1 hl _ o _) (by decide) (by decide) ⟨fun q => absurd q (by decide), fun _ => ?_⟩
      exact ⟨bz0, mF1 hk (by decide) _, Nat.le_refl _⟩
    refine ⟨fun h => hG 10 _ _ _ _ _ (no (by unfold wiF; rw [decide_eq_false (Int32.not_le.mpr h)]; rfl)), fun h => ⟨fun h2 => ?_, fun h2 => no (by unfold wiF; rw [decide_eq_false h2, Bool.and_false])⟩⟩
    refine hG 12 _ _ _ _ _ ?_
    have hk : kLa p t n = 0 := by unfold kLa wiF; rw [hp, decide_eq_true (Int32.not_lt.mp h), decide_eq_true h2]; rfl
    refine clI (c_X8_bad0 hl _ o _) (by decide) (by decide) ⟨fun _ => ?_, fun q => absurd rfl q⟩
    refine hG 18 _ _ _ _ _ ?_
    rw [hk2]
    refine ⟨in60 hn (inB_e hp), fun h3 => ?_, fun h3 => ?_⟩
    · refine hG 29 _ _ _ _ _ ?_
      exact ⟨bz0, mF0' hk (by rw [if_pos (show t ≤ M 11 31 from h3)]) rfl, Nat.le_refl _⟩
    · refine hG 30 _ _ _ _ _ ?_
      exact ⟨bz1, mF0' hk (by rw [if_neg (show ¬ t ≤ M 11 31 from h3)]) rfl, Nat.le_refl _⟩
def kTo (p w : Int32) (n : Nat) : Nat := cond (inB p n) (cond (wiF w 0 2) 0 2) 1
def tdF (w a b c : Int32) : Int32 := if w = 0 then a else if w = 1 then b else c
theorem wi02 {w : Int32} (h0 : ¬ w = 0) (h1 : ¬ w = 1) (h2 : ¬ w = 2) : wiF w 0 2 = false := by
  rw [Bool.eq_false_iff]
  unfold wiF
  simp only [ne_eq, Bool.and_eq_true, decide_eq_true_eq]
  rintro ⟨q1, q2⟩
  obtain ⟨j, hj, rfl⟩ := nI_of (Int32.not_lt.mpr q1)
  have : j ≤ 2 := (nI_leI (b := 2) hj (by decide)).mp q2
  rcases (show j = 0 ∨ j = 1 ∨ j = 2 by omega) with rfl | rfl | rfl
  · exact h0 rfl
  · exact h1 rfl
  · exact h2 rfl
theorem c_X7_told {l : Launch} (hl : l.stackTraces = false) (M : Mem) (o : Ou) {n : Nat} (p w : Int32) (hf : M 8 4 = nI n) (hn : n ≤ 60) : Ct l 20 8 100 [.ref 0, .int p, .int w] M o (rF (kTo p w n) (tdF w (M 20 p.toNatClampNeg) (M 21 p.toNatClampNeg) (M 22 p.toNatClampNeg)) (eF (kTo p w n) M M) o) (xF IOB IAE (kTo p w n) (eF (kTo p w n) M M) o) := by
  refine ct_plain hl ok100 (by decide) (by decide) rfl rfl (by decide) (Nat.le_of_ble_eq_true rfl) (fun G hG => hG 0 _ _ _ _ _ ?_)
  refine clR (c_X7_requirePony hl M o p hf (by omega)) (by decide) (by decide) (fun hp => ?_) (fun hp => ?_)
  · have hin := in60 hn hp
    refine ⟨fun h => ?_, fun h0 => ⟨fun h => ?_, fun h1 => ⟨fun h => ?_, fun h2 => ?_⟩⟩⟩
    · refine hG 5 _ _ _ _ _ ?_
      have h : w = 0 := h
      subst h
      have hk : kTo p 0 n = 0 := by unfold kTo; rw [inB_t hp]; rfl
      exact clI (c_X5_ownerOf hl M o p hin) (by decide) (by decide) ⟨⟨hk, rfl, eF0 hk, rfl⟩, by decide⟩
    · refine hG 10 _ _ _ _ _ ?_
      have h : w = 1 := h
      subst h
      have hk : kTo p 1 n = 0 := by unfold kTo; rw [inB_t hp]; rfl
      exact clI (c_X5_ledOf hl M o p hin) (by decide) (by decide) ⟨⟨hk, rfl, eF0 hk, rfl⟩, by decide⟩
    · refine hG 15 _ _ _ _ _ ?_
      have h : w = 2 := h
      subst h
      have hk : kTo p 2 n = 0 := by unfold kTo; rw [inB_t hp]; rfl
      exact clI (c_X5_ridesToday hl M o p hin) (by decide) (by decide) ⟨⟨hk, rfl, eF0 hk, rfl⟩, by decide⟩
    · refine hG 20 _ _ _ _ _ ?_
      have hk : kTo p w n = 2 := by unfold kTo; rw [inB_t hp, wi02 h0 h1 h2]; rfl
      exact ⟨⟨Or.inr ⟨hk, rfl⟩, eF2 hk, rfl⟩, by decide⟩
  · have hk : kTo p w n = 1 := by unfold kTo; rw [inB_f hp]; rfl
    exact ⟨⟨Or.inl ⟨hk, rfl⟩, eF1 hk, rfl⟩, by decide⟩
theorem c_X8_told {l : Launch} (hl : l.stackTraces = false) (M : Mem) (o : Ou) {n : Nat} (p w : Int32) (hf : M 11 30 = nI n) (hn : n ≤ 60) : Ct l 20 0 149 [.ref 11, .int p, .int w] M o (mF (kTo p w n) (tdF w (M 46 p.toNatClampNeg) (7 * M 47 p.toNatClampNeg) (M 48 p.toNatClampNeg)) (thr M 0) M o) nX := by
  refine ct_plain hl ok149 (by decide) (by decide) rfl rfl (by decide) (Nat.le_of_ble_eq_true rfl) (fun G hG => hG 0 _ _ _ _ _ ?_)
  refine clI (c_X8_isPony hl M o p hf (by omega)) (by decide) (by decide) ⟨fun h => ?_, fun h => ?_⟩
  · refine hG 16 _ _ _ _ _ ?_
    have hk : kTo p w n = 1 := by unfold kTo; rw [cond_z h]; rfl
    have hk2 : kPn p n = 1 := by unfold kPn; rw [cond_z h]; rfl
    rw [hk2]
    exact ⟨mF1' hk (by decide), Nat.le_refl _⟩
  · have hp := cond_n h
    have hin := in60 hn (inB_e hp)
    have hk2 : kPn p n = 0 := by unfold kPn; rw [hp]; rfl
    rw [hk2]
    have no : wiF w 0 2 = false → XS l 20 0 e149 (mF (kTo p w n) (tdF w (M 46 p.toNatClampNeg) (7 * M 47 p.toNatClampNeg) (M 48 p.toNatClampNeg)) (thr M 0) M o) nX G 10 [some (.ref 11), some (.int p), some (.int w)] [.ref 11] (thr M 0) o 0 := by
      intro h
      have hk : kTo p w n = 2 := by unfold kTo; rw [hp, h]; rfl
      refine hG 13 _ _ _ _ _ ?_
      refine clI (c_X8_bad1 hl _ o _) (by decide) (by decide) ⟨fun q => absurd q (by decide), fun _ => ?_⟩
      exact ⟨mF1 hk (by decide) _, Nat.le_refl _⟩
    refine ⟨fun h => hG 10 _ _ _ _ _ (no (by unfold wiF; rw [decide_eq_false (Int32.not_le.mpr h)]; rfl)), fun h => ⟨fun h2 => ?_, fun h2 => no (by unfold wiF; rw [decide_eq_false h2, Bool.and_false])⟩⟩
    refine hG 12 _ _ _ _ _ ?_
    have hk : kTo p w n = 0 := by unfold kTo wiF; rw [hp, decide_eq_true (Int32.not_lt.mp h), decide_eq_true h2]; rfl
    refine clI (c_X8_bad0 hl _ o _) (by decide) (by decide) ⟨fun _ => ?_, fun q => absurd rfl q⟩
    refine hG 18 _ _ _ _ _ ?_
    refine ⟨fun h3 => ?_, fun h3 => ⟨hin, ?_⟩⟩
    · refine hG 25 _ _ _ _ _ ?_
      refine ⟨fun h4 => ?_, fun h4 => ⟨hin, ?_⟩⟩
      · refine hG 35 _ _ _ _ _ ?_
        exact ⟨hin, mF0' hk (by unfold tdF; rw [if_neg h3, if_neg h4]; rfl) rfl, Nat.le_refl _⟩
      · refine hG 39 _ _ _ _ _ ?_
        exact ⟨mF0' hk (by unfold tdF; rw [if_neg h3, if_pos h4]; rfl) rfl, Nat.le_refl _⟩
    · refine hG 39 _ _ _ _ _ ?_
      exact ⟨mF0' hk (by unfold tdF; rw [if_pos h3]; rfl) rfl, Nat.le_refl _⟩
def kRe (d : Nat) : Nat := if d < 100000 then 0 else 1
abbrev cRe (M : Mem) (n d : Nat) : Mem := mset (mrow M 22 (fun j => if j < n then 0 else M 22 j)) 8 5 (nI (d + 1))
abbrev mRe (M : Mem) (n d : Nat) : Mem := mrow (mset M 11 31 (nI (d + 1))) 48 (fun j => if j < n then 0 else M 48 j)
theorem c_X7_rest {l : Launch} (hl : l.stackTraces = false) (M : Mem) (o : Ou) {n d : Nat} (hf : M 8 4 = nI n) (hn : n ≤ 60) (hd : M 8 5 = nI d) (hd1 : d ≤ 100000) : Ct l 20 8 103 [.ref 0] M o (rF (kRe d) (nI (d + 1)) (eF (kRe d) (cRe M n d) M) o) (xF ISE IAE (kRe d) (eF (kRe d) (cRe M n d) M) o) := by
  refine ct_plain hl ok103 (by decide) (by decide) rfl rfl (by decide) (Nat.le_of_ble_eq_true rfl) (fun G hG => hG 0 _ _ _ _ _ ?_)
  refine clI (c_X5_today hl M o) (by decide) (by decide) ⟨fun h => ?_, fun h => ?_⟩
  · refine hG 10 _ _ _ _ _ ?_
    rw [hd] at h
    have h : d < 100000 := (nI_ltI (b := 100000) (by omega) (by decide)).mp h
    have hk : kRe d = 0 := by unfold kRe; rw [if_pos h]
    have hc := c_X5_nextDay hl M o hf hn
    rw [hd, nI_1] at hc
    exact clI hc (by decide) (by decide) ⟨⟨hk, rfl, eF0 hk, rfl⟩, by decide⟩
  · rw [hd] at h
    have h : ¬ d < 100000 := fun q => h (nI_lt (b := 100000) q (by decide))
    have hk : kRe d = 1 := by unfold kRe; rw [if_neg h]
    exact ⟨⟨Or.inl ⟨hk, rfl⟩, eF1 hk, rfl⟩, by decide⟩
theorem c_X8_rest {l : Launch} (hl : l.stackTraces = false) (M : Mem) (o : Ou) {n d : Nat} (hf : M 11 30 = nI n) (hn : n ≤ 60) (hd : M 11 31 = nI d) (hd1 : d ≤ 100000) : Ct l 20 0 150 [.ref 11] M o (mF (kRe d) (nI (d + 1)) (mRe (thr M 0) n d) M o) nX := by
  refine ct_plain hl ok150 (by decide) (by decide) rfl rfl (by decide) (Nat.le_of_ble_eq_true rfl) (fun G hG => hG 0 _ _ _ _ _ ?_)
  refine ⟨fun h => ?_, fun h => ?_⟩
  · refine hG 10 _ _ _ _ _ ?_
    have h : ¬ M 11 31 = 100000 := h
    have h : d < 100000 := by
      rcases Nat.lt_or_ge d 100000 with q | q
      · exact q
      · exact absurd (by rw [hd, show d = 100000 by omega]; rfl) h
    have hk : kRe d = 0 := by unfold kRe; rw [if_pos h]
    refine clI (c_X8_bad0 hl _ o _) (by decide) (by decide) ⟨fun _ => ?_, fun q => absurd rfl q⟩
    refine hG 16 _ _ _ _ _ ?_
    have key : ∀ m j, j + m = n → G 25 [some (.ref 11), some (.int (nI j))] [] (mrow (mset (thr M 0) 11 31 (M 11 31 + 1)) 48 (fun q => if q < j then 0 else M 48 q)) o 0 := by
      intro m
      induction m with
      | zero =>
        intro j hj
        refine hG 25 _ _ _ _ _ ?_
        refine ⟨fun _ => ?_, fun h => absurd (by rw [show mrow (mset (thr M 0) 11 31 (M 11 31 + 1)) 48 _ 11 30 = nI n from hf]; exact nI_le (by omega) (by omega)) h⟩
        refine hG 36 _ _ _ _ _ ?_
        rw [show j = n by omega]
        refine ⟨mF0' hk ?_ ?_, Nat.le_refl _⟩
        · show M 11 31 + 1 = _
          rw [hd, nI_1]
        · rw [hd, nI_1]; rfl
      | succ m ih =>
        intro j hj
        refine hG 25 _ _ _ _ _ ?_
        refine ⟨fun h => absurd (by rw [← show mrow (mset (thr M 0) 11 31 (M 11 31 + 1)) 48 _ 11 30 = nI n from hf]; exact h) (nI_ge (a := j) (b := n) (by omega) (by omega)), fun _ => ⟨vp_in_nI (show j < 60 by omega) (by decide), ?_⟩⟩
        have hnx := ih (j + 1) (by omega)
        rw [← nI_1] at hnx
        rw [nI_clamp (by omega), mset_mrow, upd_fill]
        exact hnx
    have := key n 0 (by omega)
    rw [show (fun q => if q < 0 then 0 else M 48 q) = (mset (thr M 0) 11 31 (M 11 31 + 1)) 48 by funext q; simp; rfl, mrow_self] at this
    exact this
  · have h : M 11 31 = 100000 := h
    have h : ¬ d < 100000 := fun q => nI_ge (b := 100000) q (by decide) (by rw [← hd, h]; decide)
    have hk : kRe d = 1 := by unfold kRe; rw [if_neg h]
    refine hG 11 _ _ _ _ _ ?_
    refine clI (c_X8_bad1 hl _ o _) (by decide) (by decide) ⟨fun q => absurd q (by decide), fun _ => ?_⟩
    exact ⟨mF1 hk (by decide) 0, Nat.le_refl _⟩
theorem c_X7_afoot {l : Launch} (hl : l.stackTraces = false) (M : Mem) (o : Ou) : Ct l 20 8 102 [.ref 0] M o (rI (M 0 6) M o) nX := by
  refine ct_plain hl ok102 (by decide) (by decide) rfl rfl (by decide) (Nat.le_of_ble_eq_true rfl) (fun G hG => hG 0 _ _ _ _ _ ?_)
  exact ⟨⟨rfl, rfl, rfl⟩, by decide⟩
theorem c_X8_afoot {l : Launch} (hl : l.stackTraces = false) (M : Mem) (o : Ou) : Ct l 20 0 161 [.ref 11] M o (rI (M 11 32) (thr M 0) o) nX := by
  refine ct_plain hl ok161 (by decide) (by decide) rfl rfl (by decide) (Nat.le_of_ble_eq_true rfl) (fun G hG => hG 0 _ _ _ _ _ ?_)
  exact ⟨⟨rfl, rfl, rfl⟩, Nat.le_refl _⟩
