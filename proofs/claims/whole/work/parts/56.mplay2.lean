/-! CONTRACTS: the reference plays, and tells a mount. -/
def mmR (M : Mem) (m : Nat) (pl rd : Nat → Nat) (p c i r : Int32) (M' : Mem) : Prop := MFr (thr M 0) M' ∧ ∃ w, MW (qF (ownL (M 46) p m) pl) (kF (M 49) (M 11 31) rd (ownL (M 46) p m)) (ownL (M 46) p m).length c.toNatClampNeg w ∧ r = oW (ownL (M 46) p m) (w.getD i.toNatClampNeg none)
theorem c_X8_mount {l : Launch} (hl : l.stackTraces = false) (M : Mem) (o : Ou) {n m : Nat} {pl rd : Nat → Nat} (p c i : Int32) (hf : M 11 3 = nI n) (hn : n ≤ 32) (hm : M 11 30 = nI m) (h60 : m ≤ 60) (h8 : ∀ p, cntN (M 46) p m ≤ 8) (hS : MSt M pl rd) (bp : ∀ k, k < m → pl k < 8000000) (br : ∀ k, k < m → rd k ≤ 2) : Ct l 20 0 160 [.ref 11, .int p, .int c, .int i] M o (fun v M' o' => o' = o ∧ ((¬ kMo p c i n = 0 ∧ v = some (.int 0) ∧ M' = thr M (kMo p c i n)) ∨ (kMo p c i n = 0 ∧ ∃ r, v = some (.int r) ∧ mmR M m pl rd p c i r M'))) nX := by
  refine ct_plain hl ok160 (by decide) (by decide) rfl rfl (by decide) (Nat.le_of_ble_eq_true rfl) (fun G hG => hG 0 _ _ _ _ _ ?_)
  refine clI (c_X8_isPlayer (n := n) hl _ o p hf (by omega)) (by decide) (by decide) ⟨fun h => ?_, fun h => ?_⟩
  · refine hG 10 _ _ _ _ _ ?_
    have hp := cond_n h
    refine clI (c_X8_bad0 hl _ o _) (by decide) (by decide) ⟨fun q => absurd rfl q, fun _ => ?_⟩
    have no : (wiF c 1 6 && wiF i 0 (c - 1)) = false → XS l 20 0 e160 (fun v M' o' => o' = o ∧ ((¬ kMo p c i n = 0 ∧ v = some (.int 0) ∧ M' = thr M (kMo p c i n)) ∨ (kMo p c i n = 0 ∧ ∃ r, v = some (.int r) ∧ mmR M m pl rd p c i r M'))) nX G 26 [some (.ref 11), some (.int p), some (.int c), some (.int i)] [.ref 11] (mset M 11 0 0) o 0 := by
      intro h
      have hk : kMo p c i n = 2 := by unfold kMo; rw [hp, h]; rfl
      refine hG 29 _ _ _ _ _ ?_
      refine clI (c_X8_bad1 hl _ o _) (by decide) (by decide) ⟨fun q => absurd q (by decide), fun _ => ?_⟩
      exact ⟨⟨rfl, Or.inl ⟨by rw [hk]; decide, rfl, by rw [hk]; exact thr_thr M 0 2⟩⟩, Nat.le_refl _⟩
    refine ⟨fun h => hG 26 _ _ _ _ _ (no (by unfold wiF; rw [decide_eq_false (Int32.not_le.mpr h)]; rfl)), fun h1 => ⟨fun h => hG 26 _ _ _ _ _ (no (by unfold wiF; rw [decide_eq_false (p := c ≤ 6) (Int32.not_le.mpr h), Bool.and_false]; rfl)), fun h2 => ?_⟩⟩
    have hc : wiF c 1 6 = true := by unfold wiF; rw [decide_eq_true (Int32.not_lt.mp h1), decide_eq_true (Int32.not_lt.mp h2)]; rfl
    obtain ⟨N, n1, n6, rfl⟩ := wi16 hc
    refine ⟨fun h => hG 26 _ _ _ _ _ (no ?_), fun h3 => ⟨fun h4 => ?_, fun h => no ?_⟩⟩
    · rw [hc, Bool.true_and, Bool.eq_false_iff]
      intro z
      exact in_neg (by omega) h ((wiF_n (by omega)).mp z)
    · have hi : vp_in i N := in_lt (by omega) h3 (Int32.not_le.mpr h4)
      have hk : kMo p (nI N) i n = 0 := by unfold kMo; rw [hp, hc, (wiF_n (by omega)).mpr hi]; rfl
      obtain ⟨I, hI, rfl⟩ := vp_in_of hi (by omega)
      have eI : (nI I).toNatClampNeg = I := nI_clamp (by omega)
      refine hG 28 _ _ _ _ _ ?_
      refine clI (c_X8_bad0 hl _ o _) (by decide) (by decide) ⟨fun _ => ?_, fun q => absurd rfl q⟩
      refine hG 34 _ _ _ _ _ ?_
      generalize hxs : ownL (M 46) p m = xs
      refine clP (c_X8_mounts hl (mset M 11 0 0) o (m := m) (N := N) (pl := pl) (rd := rd) (Q := qF xs pl) (cap := kF (M 49) (M 11 31) rd xs) (xs := xs) p hm h60 (h8 p) (fun k hk => hS.1 k (by omega)) (fun k hk => by have := bp k hk; omega) (fun k hk => ⟨hS.2 k (by omega), br k hk⟩) n6 n1 hxs.symm rfl rfl) (by decide) (by decide) (fun v M1 o1 q => ?_) (fun _ _ _ q => q.elim)
      obtain ⟨hv, ho, hF, hown, b, w, w1, w2, w3, w4, w5, hrd⟩ := q
      subst hv
      rw [ho]
      have hMW : MW (qF xs pl) (kF (M 49) (M 11 31) rd xs) xs.length N w := ⟨b, w1, w2, w3, w4, w5⟩
      obtain ⟨wl, wi, wc⟩ := hMW.ok
      have x8 : xs.length ≤ 8 := by rw [← hxs, ownL_len]; exact h8 p
      have I6 : vp_in (nI I) 6 := vp_in_nI (by omega) (by decide)
      have fin : ∀ r, r = oW xs (w.getD I none) → mmR M m pl rd p (nI N) (nI I) r M1 := by
        intro r hr
        refine ⟨hF, ?_⟩
        rw [hxs, nI_clamp (by omega), eI]
        exact ⟨w, hMW, hr⟩
      refine ⟨I6, ?_⟩
      rw [eI, hrd I hI]
      cases hwI : w.getD I none with
      | none =>
        refine ⟨fun z => absurd z (by decide), fun _ => ?_⟩
        refine hG 52 _ _ _ _ _ ?_
        exact ⟨⟨rfl, Or.inr ⟨hk, -1, rfl, fin _ (by rw [hwI]; rfl)⟩⟩, Nat.le_refl _⟩
      | some k =>
        have hkx : k < xs.length := by
          refine wi k ?_
          rw [List.getD_eq_getElem?_getD, List.getElem?_eq_getElem (by omega)] at hwI
          have hwI : w[I] = some k := hwI
          rw [← hwI]
          exact List.getElem_mem _
        refine ⟨fun _ => ?_, fun z => absurd (nI_pos' (by omega)) z⟩
        refine hG 45 _ _ _ _ _ ?_
        refine ⟨I6, ?_⟩
        rw [eI, hrd I hI, hwI]
        refine ⟨vp_in_nI (show k < 8 by omega) (by decide), ?_⟩
        rw [show oI (some k) = nI k from rfl, nI_clamp (by omega), hown k hkx]
        exact ⟨⟨rfl, Or.inr ⟨hk, _, rfl, fin _ (by rw [hwI]; rfl)⟩⟩, Nat.le_refl _⟩
    · rw [hc, Bool.true_and, Bool.eq_false_iff]
      intro z
      exact in_ge (by omega) (Int32.not_lt.mp h) ((wiF_n (by omega)).mp z)
  · refine hG 11 _ _ _ _ _ ?_
    have hk : kMo p c i n = 1 := by unfold kMo; rw [cond_z h]; rfl
    refine clI (c_X8_bad1 hl _ o _) (by decide) (by decide) ⟨fun _ => ?_, fun q => absurd q (by decide)⟩
    refine hG 32 _ _ _ _ _ ?_
    exact ⟨⟨rfl, Or.inl ⟨by rw [hk]; decide, rfl, by rw [hk]; exact thr_thr M 0 1⟩⟩, Nat.le_refl _⟩
/-- the reference's end of a match -/
abbrev mM (M : Mem) (k : Nat) (t : Int32) : Mem := mset (mset (mset M 44 k t) 11 24 (nI (k + 1))) 11 11 (M 11 11 + 1)
def mendE (M : Mem) (E W H L : List Int32) (n : Nat) (t : Int32) (M' : Mem) : Prop := (¬ L.length + 1 = n ∧ M' = mM M L.length t) ∨ (L.length + 1 = n ∧ ∃ f g a b, M' = bgM (enZ (mM M L.length t) f g (hN W H (L ++ [t])).length (wN W (L ++ [t])).length) (plcF (M 45) E (wN W (L ++ [t])) (hN W H (L ++ [t]))) (rdF (wN W (L ++ [t])) (hN W H (L ++ [t])) (M 11 10)) a b (prs (wN W (L ++ [t])) (hN W H (L ++ [t]))).length ∧ Lst f (nI (hN W H (L ++ [t])).length) (hN W H (L ++ [t])) ∧ Lst g (nI (wN W (L ++ [t])).length) (wN W (L ++ [t])) ∧ Lst a (nI (prs (wN W (L ++ [t])) (hN W H (L ++ [t]))).length) ((prs (wN W (L ++ [t])) (hN W H (L ++ [t]))).map (·.1)) ∧ Lst b (nI (prs (wN W (L ++ [t])) (hN W H (L ++ [t]))).length) ((prs (wN W (L ++ [t])) (hN W H (L ++ [t]))).map (·.2)))
def kPm (a b : Int32) (k n : Nat) : Nat := cond (wiF a 0 50 && wiF b 0 50) (if k = n then 2 else 0) 1
def scM (M : Mem) (g x y : Int32) : Int32 := 2 * g + ghM (mSum M y - mSum M x) (M 11 9)
def mpR (M : Mem) (E W H L : List Int32) (P : List (Int32 × Int32)) (m N : Nat) (pl rd : Nat → Nat) (x y v w : Int32) (k : Nat) : Mem → Prop := fun M' => if k = 0 then (if v = w then M' = thr M 0 else ∃ M1 pl' rd' af', QFr (thr M 0) M1 ∧ MCh (M 46) (M 49) (M 11 31) m N (seqL (tmG M x.toNatClampNeg y.toNatClampNeg) 8 0) pl rd (M 11 32) pl' rd' af' ∧ MSt M1 pl' rd' ∧ M1 11 32 = af' ∧ (∀ k, k < m → pl' k ≤ pl k + 16) ∧ (∀ k, k < m → rd' k ≤ 2) ∧ mendE M1 E W H L P.length (if v ≤ w then x else y) M') else M' = thr M k
theorem c_X8_play {l : Launch} (hl : l.stackTraces = false) (M : Mem) (o : Ou) {E W H L : List Int32} {P : List (Int32 × Int32)} {m N : Nat} {pl rd : Nat → Nat} {x y v w : Int32} (a b : Int32) (hR : MR M E W H) (hP : MP M P L.length) (h44 : ∀ j, j < L.length → M 44 j = L.getD j 0) (hx : x = (P.getD L.length (0, 0)).1) (hy : y = (P.getD L.length (0, 0)).2) (hv : v = scM M a x y) (hw : w = scM M b y x) (hm : M 11 30 = nI m) (h60 : m ≤ 60) (h8 : ∀ p, cntN (M 46) p m ≤ 8) (hS : MSt M pl rd) (bp : ∀ k, k < m → pl k < 8000000) (br : ∀ k, k < m → rd k ≤ 2) (hN : L.length < P.length → 1 ≤ N ∧ N ≤ 6 ∧ M 11 9 = nI N ∧ mOk M x ∧ mOk M y ∧ (∀ t, t = x ∨ t = y → (∀ z ∈ L ++ [t], vp_in z 8) ∧ (∀ z ∈ L ++ [t], (M 45 z.toNatClampNeg = 1 ↔ z ∈ W)) ∧ (wN W (L ++ [t])).length + (hN W H (L ++ [t])).length ≤ 8 ∧ ∀ z ∈ Jvm.Pilot.CPoloSeasonLaw_law_r5675_952e98.hN W H (L ++ [t]), vp_in z 8)) : Ct l 20 0 143 [.ref 11, .int a, .int b] M o (fun r M' o' => o' = o ∧ r = some (.int (if kPm a b L.length P.length = 0 then pyV v w x y else 0)) ∧ mpR M E W H L P m N pl rd x y v w (kPm a b L.length P.length) M') nX := by
  have hle := hP.le
  have p8 := hP.len.1
  refine ct_plain hl ok143 (by decide) (by decide) rfl rfl (by decide) (Nat.le_of_ble_eq_true rfl) (fun G hG => hG 0 _ _ _ _ _ ?_)
  have no : (wiF a 0 50 && wiF b 0 50) = false → XS l 20 0 e143 (fun r M' o' => o' = o ∧ r = some (.int (if kPm a b L.length P.length = 0 then pyV v w x y else 0)) ∧ mpR M E W H L P m N pl rd x y v w (kPm a b L.length P.length) M') nX G 14 [some (.ref 11), some (.int a), some (.int b), none, none, none, none] [.ref 11] (mset M 11 0 0) o 0 := by
    intro h
    have hk : kPm a b L.length P.length = 1 := by unfold kPm; rw [h]; rfl
    refine hG 17 _ _ _ _ _ ?_
    refine clI (c_X8_bad1 hl _ o _) (by decide) (by decide) ⟨fun _ => ?_, fun q => absurd q (by decide)⟩
    refine hG 32 _ _ _ _ _ ?_
    refine ⟨⟨rfl, by rw [hk]; rfl, ?_⟩, Nat.le_refl _⟩
    unfold mpR
    rw [hk, if_neg (by decide)]
    exact thr_thr M 0 1
  refine ⟨fun h => hG 14 _ _ _ _ _ (no (by unfold wiF; rw [decide_eq_false (Int32.not_le.mpr h)]; rfl)), fun h1 => ⟨fun h => hG 14 _ _ _ _ _ (no (by unfold wiF; rw [decide_eq_false (p := a ≤ 50) (Int32.not_le.mpr h), Bool.and_false]; rfl)), fun h2 => ⟨fun h => hG 14 _ _ _ _ _ (no (by unfold wiF; rw [decide_eq_false (p := 0 ≤ b) (Int32.not_le.mpr h)]; simp)), fun h3 => ⟨fun h4 => ?_, fun h => no (by unfold wiF; rw [decide_eq_false (p := b ≤ 50) h]; simp)⟩⟩⟩⟩
  have hin : (wiF a 0 50 && wiF b 0 50) = true := by unfold wiF; rw [decide_eq_true (Int32.not_lt.mp h1), decide_eq_true (Int32.not_lt.mp h2), decide_eq_true (Int32.not_lt.mp h3), decide_eq_true h4]; rfl
  refine hG 16 _ _ _ _ _ ?_
  refine clI (c_X8_bad0 hl _ o _) (by decide) (by decide) ⟨fun q => absurd rfl q, fun _ => ⟨fun h5 => ?_, fun h5 => ?_⟩⟩
  rotate_left
  · have h5 : L.length = P.length := hP.eq.mp h5
    have hk : kPm a b L.length P.length = 2 := by unfold kPm; rw [hin, if_pos h5]; rfl
    refine hG 29 _ _ _ _ _ ?_
    refine clI (c_X8_bad1 hl _ o _) (by decide) (by decide) ⟨fun q => absurd q (by decide), fun _ => ?_⟩
    refine ⟨⟨rfl, by rw [hk]; rfl, ?_⟩, Nat.le_refl _⟩
    unfold mpR
    rw [hk, if_neg (by decide)]
    exact thr_thr M 0 2
  have h5 : ¬ L.length = P.length := fun q => h5 (hP.eq.mpr q)
  have hk : kPm a b L.length P.length = 0 := by unfold kPm; rw [hin, if_neg h5]; rfl
  rw [hk, if_pos rfl] at hG
  obtain ⟨n1, n6, hch, hox, hoy, hend⟩ := hN (by omega)
  have hix := hP.ix (by omega)
  rw [← hx, ← hy] at hix
  refine hG 28 _ _ _ _ _ ?_
  refine clI (c_X8_bad0 hl _ o _) (by decide) (by decide) ⟨fun _ => ?_, fun q => absurd rfl q⟩
  refine hG 34 _ _ _ _ _ ?_
  refine ⟨hix.1, hix.1, ?_⟩
  rw [show mset M 11 0 0 42 ((mset M 11 0 0) 11 24).toNatClampNeg = x from hix.2.1, show mset M 11 0 0 43 ((mset M 11 0 0) 11 24).toNatClampNeg = y from hix.2.2]
  refine clI (givT hl (mset M 11 0 0) o hox hoy) (by decide) (by decide) (clI (givT hl (mset M 11 0 0) o hoy hox) (by decide) (by decide) ?_)
  rw [show ghM (mSum (mset M 11 0 0) y - mSum (mset M 11 0 0) x) (mset M 11 0 0 11 9) = ghM (mSum M y - mSum M x) (M 11 9) from rfl, show ghM (mSum (mset M 11 0 0) x - mSum (mset M 11 0 0) y) (mset M 11 0 0 11 9) = ghM (mSum M x - mSum M y) (M 11 9) from rfl]
  have hev : 2 * a + ghM (mSum M y - mSum M x) (M 11 9) = v := hv.symm
  have hew : 2 * b + ghM (mSum M x - mSum M y) (M 11 9) = w := hw.symm
  refine ⟨fun h6 => ?_, fun h6 => ?_⟩
  rotate_left
  · rw [hev, hew] at h6
    refine ⟨⟨rfl, by unfold pyV; rw [if_pos h6], ?_⟩, Nat.le_refl _⟩
    unfold mpR
    rw [if_pos rfl, if_pos h6]; rfl
  rw [hev, hew] at h6 ⊢
  obtain ⟨X, hX, hxX, mX⟩ := hox
  obtain ⟨Y, hY, hyY, mY⟩ := hoy
  have hr1 := c_X8_rides hl (mset M 11 0 0) o (m := m) (N := N) (X := X) (Y := Y) (pl := pl) (rd := rd) hX hY hm h60 h8 hS bp br n6 n1 hch
  rw [← hxX, ← hyY] at hr1
  refine hG 69 _ _ _ _ _ ?_
  refine clP hr1 (by decide) (by decide) (fun v1 M1 o1 q => ?_) (fun _ _ _ q => q.elim)
  obtain ⟨hv1, ho1, hF, pl1, rd1, af1, hC1, hS1, haf1, bp1, br1⟩ := q
  subst hv1
  rw [ho1]
  have hmt : M1 11 24 = nI L.length := (hF.2 24 (by decide) (by decide) (by decide) (by decide)).trans hP.mt
  have hms : M1 11 23 = nI P.length := (hF.2 23 (by decide) (by decide) (by decide) (by decide)).trans hP.len.2
  have ek : (nI L.length).toNatClampNeg = L.length := nI_clamp (by omega)
  have fin : ∀ t, t = (if v ≤ w then x else y) → XS l 20 0 e143 (fun r M' o' => o' = o ∧ r = some (.int (pyV v w x y)) ∧ mpR M E W H L P m N pl rd x y v w 0 M') nX G 84 [some (.ref 11), some (.int a), some (.int b), some (.int x), some (.int y), some (.int v), some (.int w)] [] (mset M1 44 L.length t) o 0 := by
    intro t ht
    have htt : t = x ∨ t = y := by
      rw [ht]; split
      · exact Or.inl rfl
      · exact Or.inr rfl
    obtain ⟨d1, d2, d3, d4⟩ := hend t htt
    have emm : mset (mset (mset M1 44 L.length t) 11 24 ((mset M1 44 L.length t) 11 24 + 1)) 11 11 ((mset (mset M1 44 L.length t) 11 24 ((mset M1 44 L.length t) 11 24 + 1)) 11 11 + 1) = mM M1 L.length t := by
      rw [show (mset M1 44 L.length t) 11 24 = nI L.length from hmt, nI_1]; rfl
    have res : ∀ M3, mendE M1 E W H L P.length t M3 → mpR M E W H L P m N pl rd x y v w 0 M3 := by
      intro M3 he
      unfold mpR
      rw [if_pos rfl, if_neg h6]
      refine ⟨M1, pl1, rd1, af1, hF, ?_, hS1, haf1, bp1, br1, by rw [← ht]; exact he⟩
      rw [hxX, hyY, nI_clamp (by omega), nI_clamp (by omega)]
      exact hC1
    -- the winner
    have win : ∀ M3, mendE M1 E W H L P.length t M3 → XS l 20 0 e143 (fun r M' o' => o' = o ∧ r = some (.int (pyV v w x y)) ∧ mpR M E W H L P m N pl rd x y v w 0 M') nX G 103 [some (.ref 11), some (.int a), some (.int b), some (.int x), some (.int y), some (.int v), some (.int w)] [] M3 o 0 := by
      intro M3 he
      refine ⟨fun h7 => ?_, fun h7 => ?_⟩
      · refine hG 108 _ _ _ _ _ ?_
        exact ⟨⟨rfl, by unfold pyV; rw [if_neg h6, if_pos h7], res M3 he⟩, Nat.le_refl _⟩
      · refine hG 109 _ _ _ _ _ ?_
        exact ⟨⟨rfl, by unfold pyV; rw [if_neg h6, if_neg h7], res M3 he⟩, Nat.le_refl _⟩
    refine ⟨fun h7 => ?_, fun h7 => ?_⟩
    · rw [emm, show mM M1 L.length t 11 24 = nI (L.length + 1) from rfl, show mM M1 L.length t 11 23 = nI P.length from hms] at h7
      have h7 : ¬ L.length + 1 = P.length := fun z => h7 (by rw [z])
      rw [emm]
      exact hG 103 _ _ _ _ _ (win _ (Or.inl ⟨h7, rfl⟩))
    · rw [emm, show mM M1 L.length t 11 24 = nI (L.length + 1) from rfl, show mM M1 L.length t 11 23 = nI P.length from hms] at h7
      have h7 : L.length + 1 = P.length := nI_inj (by omega) (by omega) h7
      rw [emm]
      obtain ⟨r1, r2, r3, r4, r5, r6, r7⟩ := hR
      have g45 : mM M1 L.length t 45 = M 45 := hF.1 45 (by decide)
      have hR2 : MR (mM M1 L.length t) E W H := by
        refine ⟨?_, ?_, ?_, r4, r5, r6, r7⟩
        · rw [show mM M1 L.length t 38 = M 38 from hF.1 38 (by decide), show mM M1 L.length t 11 13 = M 11 13 from hF.2 13 (by decide) (by decide) (by decide) (by decide)]; exact r1
        · rw [show mM M1 L.length t 40 = M 40 from hF.1 40 (by decide), show mM M1 L.length t 11 18 = M 11 18 from hF.2 18 (by decide) (by decide) (by decide) (by decide)]; exact r2
        · rw [show mM M1 L.length t 41 = M 41 from hF.1 41 (by decide), show mM M1 L.length t 11 19 = M 11 19 from hF.2 19 (by decide) (by decide) (by decide) (by decide)]; exact r3
      have el : (L ++ [t]).length = L.length + 1 := by rw [List.length_append]; rfl
      have hL2 : Lst (mM M1 L.length t 44) (mM M1 L.length t 11 23) (L ++ [t]) := by
        have h0 : Lst (M 44) (nI L.length) L := ⟨rfl, by omega, h44⟩
        have h1 := h0.app (by omega) t
        rw [show mM M1 L.length t 44 = upd (M1 44) L.length t from rfl, hF.1 44 (by decide), show mM M1 L.length t 11 23 = nI P.length from hms, ← h7]
        exact h1
      refine clP (c_X8_ends hl (mM M1 L.length t) o (E := E) (W := W) (H := H) (L := L ++ [t]) hR2 hL2 d1 (fun z hz => by rw [g45]; exact d2 z hz) d3 d4) (by decide) (by decide) (fun v3 M3 o3 q => ?_) (fun _ _ _ q => q.elim)
      obtain ⟨hv3, ho3, f, g, a', b', hM3, q1, q2, q3, q4⟩ := q
      subst hv3
      rw [ho3]
      have g45' : M1 45 = M 45 := hF.1 45 (by decide)
      exact win M3 (Or.inr ⟨h7, f, g, a', b', hM3, q1, q2, q3, q4⟩)
  refine ⟨fun h7 => ?_, fun h7 => ?_⟩
  · refine hG 82 _ _ _ _ _ ?_
    refine ⟨by rw [hmt]; exact vp_in_nI (show L.length < 8 by omega) (by decide), ?_⟩
    rw [hmt, ek]
    exact fin x (by rw [if_pos h7])
  · refine hG 83 _ _ _ _ _ ?_
    refine ⟨by rw [hmt]; exact vp_in_nI (show L.length < 8 by omega) (by decide), ?_⟩
    rw [hmt, ek]
    exact fin y (by rw [if_neg h7])
