/-! CONTRACTS: the line's faces, on both sides. -/
theorem c_X7_requireWay {l : Launch} (hl : l.stackTraces = false) (M : Mem) (o : Ou) (x y dx dy : Int32) : Ct l 9 1 112 [.int x, .int y, .int dx, .int dy] M o (qV (lnF x y dx dy = true) M o) (qX (lnF x y dx dy = true) IAE M o) := by
  refine ct_plain hl ok112 (by decide) (by decide) rfl rfl (by decide) (Nat.le_of_ble_eq_true rfl) (fun G hG => hG 0 _ _ _ _ _ ?_)
  have k36 : lnF x y dx dy = false → ∀ a b, XS l 9 1 e112 (qV (lnF x y dx dy = true) M o) (qX (lnF x y dx dy = true) IAE M o) G 36 [some (.int x), some (.int y), some (.int dx), some (.int dy), some (.int a), some (.int b)] [] M o 0 := by
    intro h a b
    exact ⟨⟨by rw [h]; decide, rfl, rfl, rfl⟩, by decide⟩
  have k27 : ∀ a b : Bool, a = (plF x && plF y) → b = (plF dx && plF dy) → XS l 9 1 e112 (qV (lnF x y dx dy = true) M o) (qX (lnF x y dx dy = true) IAE M o) G 27 [some (.int x), some (.int y), some (.int dx), some (.int dy), some (.int (cond a 1 0)), none] [.int (cond b 1 0)] M o 0 := by
    intro a b ha hb
    have hln : lnF x y dx dy = (a && b && (!decide (dx = 0) || !decide (dy = 0))) := by
      rw [ha, hb]; unfold lnF
      cases plF x <;> cases plF y <;> cases plF dx <;> cases plF dy <;> rfl
    refine ⟨fun h => hG 36 _ _ _ _ _ (k36 (by rw [hln, cond_z h]; rfl) _ _), fun h => ⟨fun h2 => hG 36 _ _ _ _ _ (k36 (by rw [hln, cond_z h2]; simp) _ _), fun h2 => ⟨fun h3 => ?_, fun h3 => ⟨fun h4 => ?_, fun h4 => k36 (by rw [hln, decide_eq_true h3, decide_eq_true h4]; simp) _ _⟩⟩⟩⟩
    · refine hG 41 _ _ _ _ _ ?_
      exact ⟨⟨by rw [hln, cond_n h, cond_n h2, decide_eq_false h3]; rfl, rfl, rfl, rfl⟩, by decide⟩
    · refine hG 41 _ _ _ _ _ ?_
      exact ⟨⟨by rw [hln, cond_n h, cond_n h2, decide_eq_false h4]; simp, rfl, rfl, rfl⟩, by decide⟩
  have k13 : ∀ a : Bool, a = (plF x && plF y) → XS l 9 1 e112 (qV (lnF x y dx dy = true) M o) (qX (lnF x y dx dy = true) IAE M o) G 13 [some (.int x), some (.int y), some (.int dx), some (.int dy), none, none] [.int (cond a 1 0)] M o 0 := by
    intro a ha
    refine clI (c_X7_within hl M o _ _ _) (by decide) (by decide) ⟨fun h => ?_, fun h => clI (c_X7_within hl M o _ _ _) (by decide) (by decide) ⟨fun h2 => ?_, fun h2 => ?_⟩⟩
    · refine hG 26 _ _ _ _ _ ?_
      exact k27 a false ha (by rw [show plF dx = false from cond_z h]; rfl)
    · refine hG 26 _ _ _ _ _ ?_
      exact k27 a false ha (by rw [show plF dy = false from cond_z h2]; simp)
    · refine hG 27 _ _ _ _ _ ?_
      exact k27 a true ha (by rw [show plF dx = true from cond_n h, show plF dy = true from cond_n h2]; rfl)
  refine clI (c_X7_within hl M o _ _ _) (by decide) (by decide) ⟨fun h => ?_, fun h => clI (c_X7_within hl M o _ _ _) (by decide) (by decide) ⟨fun h2 => ?_, fun h2 => ?_⟩⟩
  · refine hG 12 _ _ _ _ _ ?_
    exact k13 false (by rw [show plF x = false from cond_z h]; rfl)
  · refine hG 12 _ _ _ _ _ ?_
    exact k13 false (by rw [show plF y = false from cond_z h2]; simp)
  · refine hG 13 _ _ _ _ _ ?_
    exact k13 true (by rw [show plF x = true from cond_n h, show plF y = true from cond_n h2]; rfl)
def kBa (x y dx dy : Int32) : Nat := cond (lnF x y dx dy) 0 1
abbrev cBa (M : Mem) (x y dx dy : Int32) : Mem := mset (mset (mset (mset (mset (mset M 10 6 1) 10 7 x) 10 8 y) 10 9 dx) 10 10 dy) 10 5 0
abbrev mBa (M : Mem) (x y dx dy : Int32) : Mem := mset (mset (mset (mset (mset (mset M 11 44 1) 11 45 x) 11 46 y) 11 47 dx) 11 48 dy) 11 49 0
theorem c_X7_ball {l : Launch} (hl : l.stackTraces = false) (M : Mem) (o : Ou) (x y dx dy : Int32) : Ct l 20 8 104 [.ref 0, .int x, .int y, .int dx, .int dy] M o (vF (kBa x y dx dy) (eF (kBa x y dx dy) (cBa M x y dx dy) M) o) (xF IAE IAE (kBa x y dx dy) (eF (kBa x y dx dy) (cBa M x y dx dy) M) o) := by
  refine ct_plain hl ok104 (by decide) (by decide) rfl rfl (by decide) (Nat.le_of_ble_eq_true rfl) (fun G hG => hG 0 _ _ _ _ _ ?_)
  refine clR (c_X7_requireWay hl M o x y dx dy) (by decide) (by decide) (fun hw => ?_) (fun hw => ?_)
  · have hk : kBa x y dx dy = 0 := by unfold kBa; rw [hw]; rfl
    exact clV (c_X0_placeBall hl M o x y dx dy) (by decide) (by decide) ⟨⟨hk, rfl, eF0 hk, rfl⟩, by decide⟩
  · have hk : kBa x y dx dy = 1 := by unfold kBa; rw [Bool.not_eq_true _ |>.mp hw]; rfl
    exact ⟨⟨Or.inl ⟨hk, rfl⟩, eF1 hk, rfl⟩, by decide⟩
/-- a face of the reference that gives no value -/
abbrev mV (k : Nat) (M1 M : Mem) (o1 : Ou) : Option Value → Mem → Ou → Prop := fun v M' o' => v = none ∧ M' = (if k = 0 then M1 else thr M k) ∧ o' = o1
theorem c_X8_ball {l : Launch} (hl : l.stackTraces = false) (M : Mem) (o : Ou) (x y dx dy : Int32) : Ct l 20 0 164 [.ref 11, .int x, .int y, .int dx, .int dy] M o (mV (kBa x y dx dy) (mBa (thr M 0) x y dx dy) M o) nX := by
  refine ct_plain hl ok164 (by decide) (by decide) rfl rfl (by decide) (Nat.le_of_ble_eq_true rfl) (fun G hG => hG 0 _ _ _ _ _ ?_)
  refine clI (c_X8_isLine hl _ o x y dx dy) (by decide) (by decide) ⟨fun h => ?_, fun h => ?_⟩
  · refine hG 12 _ _ _ _ _ ?_
    have hk : kBa x y dx dy = 0 := by unfold kBa; rw [cond_n h]; rfl
    refine clI (c_X8_bad0 hl _ o _) (by decide) (by decide) ⟨fun _ => ?_, fun q => absurd rfl q⟩
    refine hG 17 _ _ _ _ _ ?_
    exact ⟨bz1, ⟨rfl, by rw [if_pos hk]; rfl, rfl⟩, Nat.le_refl _⟩
  · refine hG 13 _ _ _ _ _ ?_
    have hk : kBa x y dx dy = 1 := by unfold kBa; rw [cond_z h]; rfl
    refine clI (c_X8_bad1 hl _ o _) (by decide) (by decide) ⟨fun q => absurd q (by decide), fun _ => ?_⟩
    refine ⟨⟨rfl, ?_, rfl⟩, Nat.le_refl _⟩
    rw [hk, if_neg (by decide)]
    exact thr_thr M 0 1
def kRd (s x y dx dy b : Int32) (n : Nat) : Nat := cond (whF s && lnF x y dx dy) (if b = 0 ∨ ¬ n < 8 then 2 else 0) 1
abbrev cRd (M : Mem) (n : Nat) (s x y dx dy : Int32) : Mem := mset (mset (mset (mset (mset (mset M 30 n s) 31 n x) 32 n y) 33 n dx) 34 n dy) 10 5 (nI (n + 1))
abbrev mRd (M : Mem) (n : Nat) (s x y dx dy : Int32) : Mem := mset (mset (mset (mset (mset (mset M 58 n s) 59 n x) 60 n y) 61 n dx) 62 n dy) 11 49 (nI (n + 1))
theorem c_X7_rider {l : Launch} (hl : l.stackTraces = false) (M : Mem) (o : Ou) {n : Nat} {b : Int32} (s x y dx dy : Int32) (hf : M 10 5 = nI n) (hn : n ≤ 8) (hb : M 10 6 = b) (hz : bz b) : Ct l 20 8 105 [.ref 0, .int s, .int x, .int y, .int dx, .int dy] M o (rF (kRd s x y dx dy b n) (nI n) (eF (kRd s x y dx dy b n) (cRd M n s x y dx dy) M) o) (xF IAE ISE (kRd s x y dx dy b n) (eF (kRd s x y dx dy b n) (cRd M n s x y dx dy) M) o) := by
  refine ct_plain hl ok105 (by decide) (by decide) rfl rfl (by decide) (Nat.le_of_ble_eq_true rfl) (fun G hG => hG 0 _ _ _ _ _ ?_)
  refine clR (c_X7_requireZeroOrOne hl M o s) (by decide) (by decide) (fun hs => ?_) (fun hs => ?_)
  · refine clR (c_X7_requireWay hl M o x y dx dy) (by decide) (by decide) (fun hw => ?_) (fun hw => ?_)
    · have hz' : bz (M 10 6) := by rw [hb]; exact hz
      refine clI (c_X0_hasBall hl M o hz') (by decide) (by decide) ⟨fun h => ?_, fun h => clI (c_X0_isFull hl M o) (by decide) (by decide) ⟨fun h2 => ?_, fun h2 => ?_⟩⟩
      · refine hG 15 _ _ _ _ _ ?_
        rw [hb] at h
        have hk : kRd s x y dx dy b n = 2 := by unfold kRd; rw [hs, hw, if_pos (Or.inl h)]; rfl
        exact ⟨⟨Or.inr ⟨hk, rfl⟩, eF2 hk, rfl⟩, by decide⟩
      · refine hG 20 _ _ _ _ _ ?_
        rw [hb] at h
        have h8 : n < 8 := by
          rcases Nat.lt_or_ge n 8 with q | q
          · exact q
          · rw [hf, if_neg (show ¬ nI n < 8 from nI_nlt (a := n) (b := 8) q (by omega))] at h2
            exact absurd h2 (by decide)
        have hk : kRd s x y dx dy b n = 0 := by unfold kRd; rw [hs, hw, if_neg (fun q => q.elim h (fun q => q h8))]; rfl
        exact clI (c_X0_addRider hl M o s x y dx dy hf h8) (by decide) (by decide) ⟨⟨hk, rfl, eF0 hk, rfl⟩, by decide⟩
      · have h8 : ¬ n < 8 := fun q => h2 (by rw [hf, if_pos (show nI n < 8 from nI_lt (a := n) (b := 8) q (by decide))])
        have hk : kRd s x y dx dy b n = 2 := by unfold kRd; rw [hs, hw, if_pos (Or.inr h8)]; rfl
        exact ⟨⟨Or.inr ⟨hk, rfl⟩, eF2 hk, rfl⟩, by decide⟩
    · have hk : kRd s x y dx dy b n = 1 := by unfold kRd; rw [Bool.not_eq_true _ |>.mp hw, Bool.and_false]; rfl
      exact ⟨⟨Or.inl ⟨hk, rfl⟩, eF1 hk, rfl⟩, by decide⟩
  · have hk : kRd s x y dx dy b n = 1 := by unfold kRd; rw [Bool.not_eq_true _ |>.mp hs]; rfl
    exact ⟨⟨Or.inl ⟨hk, rfl⟩, eF1 hk, rfl⟩, by decide⟩
theorem c_X8_rider {l : Launch} (hl : l.stackTraces = false) (M : Mem) (o : Ou) {n : Nat} {b : Int32} (s x y dx dy : Int32) (hf : M 11 49 = nI n) (hn : n ≤ 8) (hb : M 11 44 = b) (hz : bz b) : Ct l 20 0 165 [.ref 11, .int s, .int x, .int y, .int dx, .int dy] M o (mF (kRd s x y dx dy b n) (nI n) (mRd (thr M 0) n s x y dx dy) M o) nX := by
  refine ct_plain hl ok165 (by decide) (by decide) rfl rfl (by decide) (Nat.le_of_ble_eq_true rfl) (fun G hG => hG 0 _ _ _ _ _ ?_)
  have no : (whF s && lnF x y dx dy) = false → XS l 20 0 e165 (mF (kRd s x y dx dy b n) (nI n) (mRd (thr M 0) n s x y dx dy) M o) nX G 13 [some (.ref 11), some (.int s), some (.int x), some (.int y), some (.int dx), some (.int dy)] [.ref 11] (mset M 11 0 0) o 0 := by
    intro h
    have hk : kRd s x y dx dy b n = 1 := by unfold kRd; rw [h]; rfl
    refine hG 16 _ _ _ _ _ ?_
    refine clI (c_X8_bad1 hl _ o _) (by decide) (by decide) ⟨fun _ => ?_, fun q => absurd q (by decide)⟩
    refine hG 33 _ _ _ _ _ ?_
    exact ⟨mF1 hk (by decide) 0, Nat.le_refl _⟩
  refine clI (c_X8_isWhich hl _ o s) (by decide) (by decide) ⟨fun h => hG 13 _ _ _ _ _ (no (by rw [cond_z h]; rfl)), fun hs => clI (c_X8_isLine hl _ o x y dx dy) (by decide) (by decide) ⟨fun h => ?_, fun h => no (by rw [cond_z h]; simp)⟩⟩
  have hw : (whF s && lnF x y dx dy) = true := by rw [cond_n hs, cond_n h]; rfl
  refine hG 15 _ _ _ _ _ ?_
  have no2 : (b = 0 ∨ ¬ n < 8) → XS l 20 0 e165 (mF (kRd s x y dx dy b n) (nI n) (mRd (thr M 0) n s x y dx dy) M o) nX G 27 [some (.ref 11), some (.int s), some (.int x), some (.int y), some (.int dx), some (.int dy)] [.ref 11] (mset M 11 0 0) o 0 := by
    intro h
    have hk : kRd s x y dx dy b n = 2 := by unfold kRd; rw [hw, if_pos h]; rfl
    refine hG 30 _ _ _ _ _ ?_
    refine clI (c_X8_bad1 hl _ o _) (by decide) (by decide) ⟨fun q => absurd q (by decide), fun _ => ?_⟩
    exact ⟨mF1 hk (by decide) 0, Nat.le_refl _⟩
  refine clI (c_X8_bad0 hl _ o _) (by decide) (by decide) ⟨fun q => absurd rfl q, fun _ => ⟨fun h1 => hG 27 _ _ _ _ _ (no2 (Or.inl (by rw [← hb]; exact h1))), fun h1 => ⟨fun h2 => ?_, fun h2 => no2 (Or.inr (fun q => ?_))⟩⟩⟩
  · refine hG 29 _ _ _ _ _ ?_
    have h1 : ¬ b = 0 := by rw [← hb]; exact h1
    have h2 : ¬ M 11 49 = 8 := h2
    have h8 : n < 8 := by
      rcases Nat.lt_or_ge n 8 with q | q
      · exact q
      · exact absurd (by rw [hf, show n = 8 by omega]; rfl) h2
    have hk : kRd s x y dx dy b n = 0 := by unfold kRd; rw [hw, if_neg (fun q => q.elim h1 (fun q => q h8))]; rfl
    refine clI (c_X8_bad0 hl _ o _) (by decide) (by decide) ⟨fun _ => ?_, fun q => absurd rfl q⟩
    refine hG 35 _ _ _ _ _ ?_
    have e1 : (M 11 49).toNatClampNeg = n := by rw [hf, nI_clamp (by omega)]
    have e2 : vp_in (M 11 49) 8 := by rw [hf]; exact vp_in_nI h8 (by decide)
    refine ⟨e2, e2, e2, e2, e2, mF0' hk ?_ ?_, Nat.le_refl _⟩
    · show M 11 49 + 1 - 1 = _
      rw [hf, nI_1, nI_pred]
    · show mset (mset (mset (mset (mset (mset _ _ (M 11 49).toNatClampNeg s) _ (M 11 49).toNatClampNeg x) _ (M 11 49).toNatClampNeg y) _ (M 11 49).toNatClampNeg dx) _ (M 11 49).toNatClampNeg dy) _ _ (M 11 49 + 1) = _
      rw [e1, hf, nI_1]; rfl
  · have h2 : M 11 49 = 8 := h2
    exact absurd (nI_inj (a := n) (b := 8) (by omega) (by decide) (by rw [← hf, h2]; decide)) (by omega)
theorem c_X7_right {l : Launch} (hl : l.stackTraces = false) (M : Mem) (o : Ou) {n : Nat} (hf : M 10 5 = nI n) (hn : n ≤ 8) : Ct l 20 8 106 [.ref 0] M o (rI (oI (cRg M n)) M o) nX := by
  refine ct_plain hl ok106 (by decide) (by decide) rfl rfl (by decide) (Nat.le_of_ble_eq_true rfl) (fun G hG => hG 0 _ _ _ _ _ ?_)
  exact clI (c_X0_firstByRight hl M o hf hn) (by decide) (by decide) ⟨⟨rfl, rfl, rfl⟩, by decide⟩
theorem c_X7_foul {l : Launch} (hl : l.stackTraces = false) (M : Mem) (o : Ou) {n : Nat} (k : Int32) (hf : M 10 5 = nI n) (hn : n ≤ 8) : Ct l 20 8 107 [.ref 0, .int k] M o (rI (foF (M 30) (cMt M) (cRg M n) k n) M o) nX := by
  refine ct_plain hl ok107 (by decide) (by decide) rfl rfl (by decide) (Nat.le_of_ble_eq_true rfl) (fun G hG => hG 0 _ _ _ _ _ ?_)
  exact clI (c_X0_crosser hl M o k hf hn) (by decide) (by decide) ⟨⟨rfl, rfl, rfl⟩, by decide⟩
theorem fkS_none {P : Nat → Bool} {k : Int32} {n : Nat} (h : ∀ j, j < n → nI (cnB P j) ≠ k) : ∀ m j, j + m ≤ n → fkS P k m j = none := by
  intro m
  induction m with
  | zero => intro j _; rfl
  | succ m ih => intro j hj; unfold fkS; rw [if_neg (fun q => h j (by omega) q.2), ih _ (by omega)]
/-- fewer than 2^31 in a count: the reference counts down -/
theorem c_X8_foul {l : Launch} (hl : l.stackTraces = false) (M : Mem) (o : Ou) {n : Nat} (k : Int32) (hf : M 11 49 = nI n) (hn : n ≤ 8) : Ct l 20 0 175 [.ref 11, .int k] M o (rI (foF (M 58) (fun i h => mMt M h i) (mRg M n) k n) (thr M 0) o) nX := by
  refine ct_plain hl ok175 (by decide) (by decide) rfl rfl (by decide) (Nat.le_of_ble_eq_true rfl) (fun G hG => hG 0 _ _ _ _ _ ?_)
  refine clI (c_X8_rightOf hl (mset M 11 0 0) o (n := n) hf hn) (by decide) (by decide) ?_
  have hm : mRg (mset M 11 0 0) n = mRg M n := rfl
  rw [hm]
  have hmm : ∀ h i, mMt (mset M 11 0 0) h i = mMt M h i := fun h i => rfl
  cases hr : mRg M n with
  | none =>
    refine hG 11 _ _ _ _ _ ⟨fun h => ?_, fun h => ⟨fun h2 => ?_, fun h2 => absurd (by decide) h2⟩⟩
    · refine hG 41 _ _ _ _ _ ?_
      exact ⟨⟨by rw [hr]; rfl, rfl, rfl⟩, Nat.le_refl _⟩
    · refine hG 41 _ _ _ _ _ ?_
      exact ⟨⟨by rw [hr]; rfl, rfl, rfl⟩, Nat.le_refl _⟩
  | some r =>
    have hr8 : r < n := rgF_lt hr
    have hfo : foF (M 58) (fun i h => mMt M h i) (mRg M n) k n = oI (fkS (foP (M 58) (fun i h => mMt M h i) r) k n 0) := by rw [hr]; rfl
    rw [hfo] at hG
    have e1 : (nI r).toNatClampNeg = r := nI_clamp (by omega)
    have e2 : vp_in (nI r) 8 := vp_in_nI (by omega) (by decide)
    by_cases hk : k < 0
    · have hno : fkS (foP (M 58) (fun i h => mMt M h i) r) k n 0 = none := by
        refine fkS_none (n := n) (fun j hj q => ?_) n 0 (by omega)
        rw [← q] at hk
        have := cnB_le (foP (M 58) (fun i h => mMt M h i) r) j
        exact nI_pos (by omega) hk
      refine hG 11 _ _ _ _ _ ⟨fun h => ?_, fun h => ⟨fun h2 => absurd h2 (nI_pos (by omega)), fun h2 => ⟨fun h3 => ?_, fun h3 => absurd hk h3⟩⟩⟩
      · refine hG 41 _ _ _ _ _ ?_
        exact ⟨⟨by rw [hno]; rfl, rfl, rfl⟩, Nat.le_refl _⟩
      · refine hG 41 _ _ _ _ _ ?_
        exact ⟨⟨by rw [hno]; rfl, rfl, rfl⟩, Nat.le_refl _⟩
    · obtain ⟨K, hK, rfl⟩ := nI_of hk
      generalize hP : foP (M 58) (fun i h => mMt M h i) r = P at hG
      have key : ∀ m j, j + m = n → cnB P j ≤ K → fkS P (nI K) n 0 = fkS P (nI K) m j → G 11 [some (.ref 11), some (.int (nI K)), some (.int (nI r)), some (.int (nI (K - cnB P j))), some (.int (nI j))] [] (mset M 11 0 0) o 0 := by
        intro m
        induction m with
        | zero =>
          intro j hj _ he
          refine hG 11 _ _ _ _ _ ?_
          refine ⟨fun _ => ?_, fun h => absurd (by rw [show mset M 11 0 0 11 49 = nI n from hf]; exact nI_le (by omega) (by omega)) h⟩
          refine hG 41 _ _ _ _ _ ?_
          exact ⟨⟨by rw [he]; rfl, rfl, rfl⟩, Nat.le_refl _⟩
        | succ m ih =>
          intro j hj hle he
          have e3 : (nI j).toNatClampNeg = j := nI_clamp (by omega)
          have e4 : vp_in (nI j) 8 := vp_in_nI (by omega) (by decide)
          have hcl := cnB_le P j
          have no : P j = false → G 39 [some (.ref 11), some (.int (nI K)), some (.int (nI r)), some (.int (nI (K - cnB P j))), some (.int (nI j))] [] (mset M 11 0 0) o 0 := by
            intro hp
            refine hG 39 _ _ _ _ _ ?_
            have hc : cnB P (j + 1) = cnB P j := by simp only [cnB]; rw [hp]; simp
            have hnx := ih (j + 1) (by omega) (by omega) (by rw [he]; exact if_neg (fun q => by rw [hp] at q; exact absurd q.1 (by decide)))
            rw [hc, ← nI_1] at hnx
            exact hnx
          refine hG 11 _ _ _ _ _ ?_
          refine ⟨fun h => absurd (by rw [← show mset M 11 0 0 11 49 = nI n from hf]; exact h) (nI_ge (a := j) (b := n) (by omega) (by omega)), fun _ => ⟨fun h2 => absurd h2 (nI_pos (by omega)), fun _ => ⟨fun h3 => absurd h3 (nI_pos hK), fun _ => ⟨e4, e2, ?_⟩⟩⟩⟩
          rw [e1, e3]
          refine ⟨fun h => no ?_, fun h => clI (c_X8_meets hl (mset M 11 0 0) o (by omega) (by omega)) (by decide) (by decide) ⟨fun h2 => ?_, fun h2 => ?_⟩⟩
          · have h : M 58 j = M 58 r := h
            rw [← hP]; unfold foP; rw [decide_eq_true h]; rfl
          · have h : ¬ M 58 j = M 58 r := h
            have hp : P j = true := by rw [← hP]; unfold foP; rw [decide_eq_false h]; exact cond_n h2
            refine hG 34 _ _ _ _ _ ?_
            refine ⟨fun h3 => ?_, fun h3 => ?_⟩
            · refine hG 38 _ _ _ _ _ ?_
              have hne : cnB P j ≠ K := fun q => h3 (by rw [q, Nat.sub_self]; rfl)
              have hc : cnB P (j + 1) = cnB P j + 1 := by simp only [cnB]; rw [if_pos hp]
              have hnx := ih (j + 1) (by omega) (by omega) (by rw [he]; exact if_neg (fun q => hne (nI_inj (by omega) hK q.2)))
              rw [hc, ← nI_1, show K - (cnB P j + 1) = K - cnB P j - 1 by omega] at hnx
              have e5 : nI (K - cnB P j - 1) = nI (K - cnB P j) + (-1) := by
                have e6 : K - cnB P j = (K - cnB P j - 1) + 1 := by omega
                generalize K - cnB P j - 1 = z at e6
                rw [e6, ← nI_1, Int32.add_assoc, show (1 : Int32) + -1 = 0 by decide, Int32.add_zero]
              rw [e5] at hnx
              exact hnx
            · have heq : cnB P j = K := by
                have := nI_inj (a := K - cnB P j) (b := 0) (by omega) (by decide) h3
                omega
              exact ⟨⟨by rw [he]; show _ = some (Value.int (oI (if _ then _ else _))); rw [if_pos ⟨hp, by rw [heq]⟩]; rfl, rfl, rfl⟩, Nat.le_refl _⟩
          · have hp : P j = false := by rw [← hP]; unfold foP; show (_ && mMt M r j) = false; rw [show mMt M r j = false from cond_z h2, Bool.and_false]
            exact no hp
      exact key n 0 (by omega) (Nat.zero_le _) rfl
