/-! THE TWO SIDES: what is given, and the draw. -/
theorem wi_int {v : Int32} (h : wiF v (-2) 10 = true) : -2 ≤ v.toInt ∧ v.toInt ≤ 10 := by
  unfold wiF at h
  simp only [Bool.and_eq_true, decide_eq_true_eq] at h
  have h1 := Int32.le_iff_toInt_le.mp h.1
  have h2 := Int32.le_iff_toInt_le.mp h.2
  have e1 : (-2 : Int32).toInt = -2 := by decide
  have e2 : (10 : Int32).toInt = 10 := by decide
  omega
theorem add_int {a b : Int32} (h1 : -1000 ≤ a.toInt) (h2 : a.toInt ≤ 1000) (h3 : -1000 ≤ b.toInt) (h4 : b.toInt ≤ 1000) : (a + b).toInt = a.toInt + b.toInt := by
  rw [Int32.toInt_add]
  exact Int.bmod_eq_of_le (by omega) (by omega)
theorem sub_int {a b : Int32} (h1 : -1000 ≤ a.toInt) (h2 : a.toInt ≤ 1000) (h3 : -1000 ≤ b.toInt) (h4 : b.toInt ≤ 1000) : (a - b).toInt = a.toInt - b.toInt := by
  rw [Int32.toInt_sub]
  exact Int.bmod_eq_of_le (by omega) (by omega)
theorem sum4_int {h m : Nat → Int32} {n T : Nat} (hn : n ≤ 32) (hm : ∀ q, q < 4 → vp_in (m (4 * T + q)) n) (hh : ∀ p, p < n → wiF (h p) (-2) 10 = true) : -8 ≤ (sum4 h m T).toInt ∧ (sum4 h m T).toInt ≤ 40 := by
  have hv : ∀ q, q < 4 → -2 ≤ (h (m (4 * T + q)).toNatClampNeg).toInt ∧ (h (m (4 * T + q)).toNatClampNeg).toInt ≤ 10 := by
    intro q hq
    obtain ⟨j, hj, he⟩ := vp_in_of (hm q hq) (by omega)
    rw [he, nI_clamp (by omega)]
    exact wi_int (hh j hj)
  have v0 := hv 0 (by decide)
  have v1 := hv 1 (by decide)
  have v2 := hv 2 (by decide)
  have v3 := hv 3 (by decide)
  rw [Nat.add_zero] at v0
  unfold sum4
  have e0 : (0 : Int32).toInt = 0 := by decide
  have s1 := add_int (a := 0) (b := h (m (4 * T)).toNatClampNeg) (by omega) (by omega) (by omega) (by omega)
  have s2 := add_int (a := 0 + h (m (4 * T)).toNatClampNeg) (b := h (m (4 * T + 1)).toNatClampNeg) (by omega) (by omega) (by omega) (by omega)
  have s3 := add_int (a := 0 + h (m (4 * T)).toNatClampNeg + h (m (4 * T + 1)).toNatClampNeg) (b := h (m (4 * T + 2)).toNatClampNeg) (by omega) (by omega) (by omega) (by omega)
  have s4 := add_int (a := 0 + h (m (4 * T)).toNatClampNeg + h (m (4 * T + 1)).toNatClampNeg + h (m (4 * T + 2)).toNatClampNeg) (b := h (m (4 * T + 3)).toNatClampNeg) (by omega) (by omega) (by omega) (by omega)
  omega
theorem hv_gh {d : Int32} {N : Nat} (h2 : d.toInt ≤ 48) (hN : N ≤ 6) : hvF d (nI N) = ghM d (nI N) := by
  unfold hvF ghM
  by_cases h : d ≤ 0
  · rw [if_pos h, if_pos h]
  · rw [if_neg h, if_neg h]
    have h0 : ¬ d < 0 := fun z => h (Int32.le_of_lt z)
    obtain ⟨D, hD, rfl⟩ := nI_of h0
    rw [nI_toInt hD] at h2
    have hDN : D * N < 2 ^ 31 := by
      have : D * N ≤ 48 * 6 := Nat.mul_le_mul (by omega) hN
      omega
    have e6 : (6 : Int32) = nI 6 := by decide
    rw [pk_mul, e6, pk_rem hDN (by decide) (by decide), pk_div hDN (by decide) (by decide), i2, pk_mul, pk_mul, Nat.mul_comm]
    congr 1
    have hm : D * N % 6 < 6 := Nat.mod_lt _ (by decide)
    by_cases w : D * N % 6 = 0
    · rw [w]; rfl
    · rw [if_neg (nI_ne0 (by omega) (by omega)), if_neg (nI_nle (by omega) (by omega))]
/-- a team of the cup, on both sides -/
theorem tm_of {M : Mem} {n t : Nat} {x : Int32} (h1 : RosI M n t) (hx : vp_in x t) : tmOk M x ∧ mOk M x ∧ ¬ x = -1 ∧ mSum M x = cSum M x ∧ -8 ≤ (cSum M x).toInt ∧ (cSum M x).toInt ≤ 40 := by
  obtain ⟨a1, a2, a3, a4, a5, a6, a7, a8, a9, a10, a11⟩ := h1
  obtain ⟨T, hT, rfl⟩ := vp_in_of hx (by omega)
  have hm : ∀ q, q < 4 → vp_in (M 14 (4 * T + q)) n := fun q hq => a10 _ (by omega)
  refine ⟨Or.inr ⟨T, by omega, rfl, fun q hq => in32 a1 (hm q hq)⟩, ⟨T, by omega, rfl, fun q hq => by rw [← a9]; exact in32 a1 (hm q hq)⟩, im1 T (by omega), by unfold mSum cSum; rw [a7, a9], ?_⟩
  unfold cSum
  rw [nI_clamp (by omega)]
  exact sum4_int a1 hm a8
theorem op_given {l : Launch} (hl : l.stackTraces = false) (M : Mem) (o : Ou) {c : Nat} (w : Int32) (h : Inv c M) : OpV l 187 [.ref 0, .int w, .ref 63] 142 [.ref 11, .int w] c M o Int32.toInt64 := by
  have h' := h
  obtain ⟨n, t, e, m, dd, r, pl, rd, E, W, H, L, h1, h2, h3, h4, h5⟩ := h
  obtain ⟨t1, t2, t3, t4, t5, t6, t7, t8, t9, t10, t11, t12, t13, t14, t15, t16, t17, t18, t19, t20, t21, t22, t23⟩ := h3
  obtain ⟨s0, s1⟩ := sn_nx t14.le
  have hle := t14.le
  generalize hP : prs W H = P at s0 s1 t14 t20 hle
  have hmem : L.length < P.length → vp_in (P.getD L.length (0, 0)).1 t ∧ vp_in (P.getD L.length (0, 0)).2 t := fun hlt => by
    rw [← hP] at hlt ⊢
    have := prs_mem hlt
    exact ⟨t17 _ (t19 _ this.1), t17 _ (t19 _ this.2)⟩
  have ok : ∀ x, (x = nxM P L.length 0 ∨ x = nxM P L.length 1) → tmOk M x := by
    intro x hx
    by_cases w : L.length = P.length
    · unfold nxM at hx
      rw [if_pos w, if_pos w] at hx
      exact Or.inl (hx.elim id id)
    · obtain ⟨m1, m2⟩ := hmem (by omega)
      unfold nxM at hx
      rw [if_neg w, if_neg w, if_pos rfl, if_neg (by decide : ¬ (1 : Int32) = 0)] at hx
      rcases hx with hx | hx
      · rw [hx]; exact (tm_of h1 m1).1
      · rw [hx]; exact (tm_of h1 m2).1
  refine op_mk (M1' := thr M 0) (kWh_le w) (w_given hl M o w (by decide) (kWh_ne w) (c_X7_given hl M o w t2 t3 t4 (ok _ (Or.inl s0)) (ok _ (Or.inr s1)))) (fun hk => ⟨fun o => ?_, inv_thr h', rfl⟩) (fun hk => ⟨fun o => ⟨_, _, c_X8_given hl M o w t14 (fun hlt => ⟨(tm_of h1 (hmem hlt).1).2.1, (tm_of h1 (hmem hlt).2).2.1⟩)⟩, inv_thr h'⟩)
  have hc := c_X8_given hl M o w t14 (fun hlt => ⟨(tm_of h1 (hmem hlt).1).2.1, (tm_of h1 (hmem hlt).2).2.1⟩)
  unfold kWh at hk
  have hw := (cond0 hk (by decide)).1
  have e1 : gvV (M 12) (M 14) (M 3 7) (snF W H L.length w.toNatClampNeg) (snF W H L.length (1 - w.toNatClampNeg)) = gvM (mSum M) (M 11 9) P L.length w := by
    by_cases wl : L.length = P.length
    · have z0 : snF W H L.length 0 = -1 := by rw [s0]; unfold nxM; rw [if_pos wl]
      have z1 : snF W H L.length 1 = -1 := by rw [s1]; unfold nxM; rw [if_pos wl]
      unfold gvM
      rw [if_pos wl]
      unfold gvV
      rcases whF_e hw with rfl | rfl
      · exact if_pos (Or.inl z0)
      · exact if_pos (Or.inl z1)
    · obtain ⟨m1, m2⟩ := hmem (by omega)
      obtain ⟨_, _, x1, x2, x3, x4⟩ := tm_of h1 m1
      obtain ⟨_, _, y1, y2, y3, y4⟩ := tm_of h1 m2
      have z0 : snF W H L.length 0 = (P.getD L.length (0, 0)).1 := by rw [s0]; unfold nxM; rw [if_neg wl, if_pos rfl]
      have z1 : snF W H L.length 1 = (P.getD L.length (0, 0)).2 := by rw [s1]; unfold nxM; rw [if_neg wl, if_neg (by decide)]
      have hdr : ¬ M 3 5 = 0 := by
        intro z
        obtain ⟨u1, u2, u3, _⟩ := t21 z
        rw [u1, u2] at hP
        rw [u3, ← hP] at wl
        exact wl rfl
      obtain ⟨N, n4, n6, hN⟩ := t22 (t23 hdr).1
      unfold gvM
      rw [if_neg wl, ← t10, hN, x2, y2]
      have sb1 := sub_int (a := cSum M (P.getD L.length (0, 0)).2) (b := cSum M (P.getD L.length (0, 0)).1) (by omega) (by omega) (by omega) (by omega)
      have sb2 := sub_int (a := cSum M (P.getD L.length (0, 0)).1) (b := cSum M (P.getD L.length (0, 0)).2) (by omega) (by omega) (by omega) (by omega)
      unfold gvV
      rcases whF_e hw with rfl | rfl
      · show (if snF W H L.length 0 = -1 ∨ snF W H L.length 1 = -1 then (-1 : Int32) else hvF (sum4 _ _ (snF W H L.length 1).toNatClampNeg - sum4 _ _ (snF W H L.length 0).toNatClampNeg) (nI N)) = _
        rw [z0, z1, if_neg (show ¬ ((P.getD L.length (0, 0)).1 = -1 ∨ (P.getD L.length (0, 0)).2 = -1) from fun z => z.elim x1 y1), if_pos (show nI 0 = 0 from rfl)]
        exact hv_gh (d := cSum M (P.getD L.length (0, 0)).2 - cSum M (P.getD L.length (0, 0)).1) (by omega) n6
      · show (if snF W H L.length 1 = -1 ∨ snF W H L.length 0 = -1 then (-1 : Int32) else hvF (sum4 _ _ (snF W H L.length 0).toNatClampNeg - sum4 _ _ (snF W H L.length 1).toNatClampNeg) (nI N)) = _
        rw [z0, z1, if_neg (show ¬ ((P.getD L.length (0, 0)).2 = -1 ∨ (P.getD L.length (0, 0)).1 = -1) from fun z => z.elim y1 x1), if_neg (show ¬ nI 1 = 0 by decide)]
        exact hv_gh (d := cSum M (P.getD L.length (0, 0)).1 - cSum M (P.getD L.length (0, 0)).2) (by omega) n6
  rw [e1]
  exact hc
/-- the places that the reference writes are those that the rows say -/
theorem plc_po {f : Nat → Int32} {E W H : List Int32} (hf : ∀ q, q < 8 → nI q ∉ E → f q = 0) (hW : ∀ x ∈ W, x ∈ E) (hH : ∀ x ∈ H, x ∈ E) (hn : (W ++ H).Nodup) {q : Nat} (hq : q < 8) : plcF f E W H q = poF 1 E W H (nI q) := by
  have hdis : nI q ∈ W → nI q ∈ H → False := fun h1 h2 => (List.nodup_append.mp hn).2.2 _ h1 _ h2 rfl
  unfold plcF poF pcF
  have h10 : ¬ (1 : Int32) = 0 := by decide
  by_cases hE : nI q ∈ E
  · rw [if_neg (show ¬ ((1 : Int32) = 0 ∨ nI q ∉ E) from fun z => z.elim h10 (fun y => y hE))]
    by_cases h2 : nI q ∈ H
    · have h1 : nI q ∉ W := fun z => hdis z h2
      rw [if_pos ⟨hq, h2⟩, if_neg (show ¬ (nI q ∉ W ∧ nI q ∉ H) from fun z => z.2 h2), if_neg h1]
    · rw [if_neg (show ¬ (q < 8 ∧ nI q ∈ H) from fun z => h2 z.2)]
      by_cases h1 : nI q ∈ W
      · rw [if_pos ⟨hq, h1⟩, if_neg (show ¬ (nI q ∉ W ∧ nI q ∉ H) from fun z => z.1 h1), if_pos h1]
      · rw [if_neg (show ¬ (q < 8 ∧ nI q ∈ W) from fun z => h1 z.2), if_pos ⟨hq, hE⟩, if_pos ⟨h1, h2⟩]
  · rw [if_pos (Or.inr hE), if_neg (show ¬ (q < 8 ∧ nI q ∈ H) from fun z => hE (hH _ z.2)), if_neg (show ¬ (q < 8 ∧ nI q ∈ W) from fun z => hE (hW _ z.2)), if_neg (show ¬ (q < 8 ∧ nI q ∈ E) from fun z => hE z.2)]
    exact hf q hq hE
theorem nd_iff {xs : List Int32} : xs.Nodup ↔ ∀ i j, i < j → j < xs.length → xs.getD i 0 ≠ xs.getD j 0 := by
  unfold List.Nodup
  rw [List.pairwise_iff_getElem]
  constructor
  · intro h i j hij hj
    rw [List.getD_eq_getElem?_getD, List.getD_eq_getElem?_getD, List.getElem?_eq_getElem hj, List.getElem?_eq_getElem (by omega : i < xs.length)]
    exact h i j (by omega) hj hij
  · intro h i j hi hj hij
    have := h i j hij hj
    rw [List.getD_eq_getElem?_getD, List.getD_eq_getElem?_getD, List.getElem?_eq_getElem hj, List.getElem?_eq_getElem hi] at this
    exact this
theorem swp_nd {xs : List Int32} {a b : Nat} (ha : a < xs.length) (hb : b < xs.length) (h : xs.Nodup) : (swp xs a b).Nodup := by
  rw [nd_iff] at h ⊢
  have hne : ∀ i j, i ≠ j → i < xs.length → j < xs.length → xs.getD i 0 ≠ xs.getD j 0 := by
    intro i j hij hi hj
    rcases Nat.lt_trichotomy i j with w | w | w
    · exact h i j w hj
    · exact absurd w hij
    · exact fun z => h j i w hi z.symm
  intro i j hij hj
  rw [swp_len] at hj
  unfold swp
  rw [getD_set _ _ _ _ (by rw [List.length_set]; exact hb), getD_set _ _ _ _ ha, getD_set _ _ _ _ (by rw [List.length_set]; exact hb), getD_set _ _ _ _ ha]
  have key : ∀ i, (if i = b then xs.getD a 0 else if i = a then xs.getD b 0 else xs.getD i 0) = xs.getD (if i = b then a else if i = a then b else i) 0 := by
    intro i
    split
    · rfl
    · split <;> rfl
  rw [key, key]
  refine hne _ _ ?_ ?_ ?_
  · split <;> split <;> (try split) <;> (try split) <;> omega
  · split <;> (try split) <;> omega
  · split <;> (try split) <;> omega
theorem shF_nd (v : Nat → Int32) : ∀ i u xs, i < xs.length → xs.length ≤ 8 → xs.Nodup → (shF v i u xs).Nodup := by
  intro i
  induction i with
  | zero => intro u xs _ _ h; exact h
  | succ i ih =>
    intro u xs hi h8 h
    unfold shF
    have hr := (rmN_eq (v u) (d := i + 2) (by omega) (by omega)).2
    exact ih _ _ (by rw [swp_len]; omega) (by rw [swp_len]; omega) (swp_nd (by omega) (by omega) h)
theorem op_draw {l : Launch} (hl : l.stackTraces = false) (M : Mem) (o : Ou) {c : Nat} (h : Inv c M) : OpV l 185 [.ref 0, .ref 63] 134 [.ref 11] c M o Int32.toInt64 := by
  have h' := h
  obtain ⟨n, t, e, m, dd, r, pl, rd, E, W, H, L, h1, h2, h3, h4, h5⟩ := h
  obtain ⟨t1, t2, t3, t4, t5, t6, t7, t8, t9, t10, t11, t12, t13, t14, t15, t16, t17, t18, t19, t20, t21, t22, t23⟩ := h3
  obtain ⟨b1, b2, b3, b4⟩ := id h2
  have hkk : cKD M ≤ 2 := by unfold cKD kDr; exact ite2 (by decide) (by decide)
  have hke : mKD M = cKD M := by unfold mKD cKD; rw [t7, t8]
  have hW0 : M 3 5 = 0 → M 5 1 = 0 := fun z => by
    obtain ⟨u1, _⟩ := t21 z
    rw [u1] at t2
    exact t2.1
  refine ⟨cKD M, _, hkk, w_draw hl M o (by decide) (by unfold cKD kDr; split <;> decide) (c_X7_draw hl M o b2 b1 t5 t6 t1 hW0), fun v M1 o1 q => ?_⟩
  obtain ⟨q1, q2, q3⟩ := q
  refine ⟨q1, ?_⟩
  have hout : cKD M = 0 → o1 0 = (drV E.length e).toInt64 := fun hk => by rw [q3, if_pos hk]; exact pk_uLs
  unfold dR at q2
  by_cases hc : cKD M = 0 ∧ 2 ≤ E.length ∧ E.length - 1 ≤ e
  · rw [if_pos hc] at q2
    obtain ⟨f, hM1, hf⟩ := q2
    subst hM1
    have hk := hc.1
    have hu : undr (M 3 4) (M 3 5) := by unfold cKD kDr at hk; exact (ite0 hk (by decide)).1
    obtain ⟨u1, u2, u3, u4⟩ := t21 hu.2
    subst u1 u2 u3
    have hke' : mKD (cDr M f E.length) = 0 := by rw [show mKD (cDr M f E.length) = mKD M from rfl, hke, hk]
    refine ⟨_, c_X8_draw hl (cDr M f E.length) o1 (n := e) (E := E) b3 b1 t13.1 t13.2.2.2.1, fun v2 M2 o2 q => ?_⟩
    obtain ⟨w1, w2, w3⟩ := q
    rw [hke', if_pos rfl] at w1
    unfold mdR at w2
    rw [hke', if_pos rfl, if_pos hc.2] at w2
    obtain ⟨f', a, b, hM2, g1, g2, g3⟩ := w2
    have hval : (cDr M f E.length) 39 = M 15 := b4.symm
    rw [hval] at hM2 g1 g2 g3
    generalize hWs : shF (M 15) (E.length - 1) 0 E = Ws at hf hM2 g1 g2 g3
    have e8 := t1.2.1
    have hmem : ∀ x ∈ Ws, x ∈ E := fun x hx => by rw [← hWs] at hx; exact shF_mem _ _ _ _ (by omega) e8 x hx
    have hnd : Ws.Nodup := by rw [← hWs]; exact shF_nd _ _ _ _ (by omega) e8 t16
    have hlen : Ws.length = E.length := by rw [← hWs, shF_len]
    refine ⟨_, w1, w3, ?_, ?_, fun _ => hout hk⟩
    · rw [hM2, hk]; rfl
    · rw [hM2]
      have nl : ∀ f : Nat → Int32, Lst f 0 [] := fun f => Lst.nil
      have hr1 : (cDr M f E.length) 11 10 + 1 = 1 := by rw [show (cDr M f E.length) 11 10 = M 3 9 from t12.symm, u4]; decide
      rw [hr1]
      refine ⟨n, t, 0, m, dd, r, pl, rd, E, Ws, [], [], h1, ⟨by decide, rfl, rfl, b4⟩, ⟨t1, hf, t3, t4, t5, bz1, t7, rfl, t9, t10, t11, rfl, ⟨t13.1, g1, nl _, t13.2.2.2.1, fun x hx => t13.2.2.2.1 x (hmem x hx), fun x hx => absurd hx List.not_mem_nil, by rw [hlen]; exact e8⟩, ⟨g2, g3, rfl, Nat.zero_le _⟩, fun j hj => absurd hj (Nat.not_lt_zero _), t16, t17, by rw [List.append_nil]; exact hnd, fun x hx => by rw [List.append_nil] at hx; exact hmem x hx, fun j hj => absurd hj (Nat.not_lt_zero _), fun z => absurd z (by show ¬ (1 : Int32) = 0; decide), t22, fun _ => ⟨hu.1, fun q hq => ?_⟩⟩, StaI.up (c := c) h4, h5⟩
      show plcF (z8 (M 45)) E Ws [] q = _
      exact plc_po (fun q hq _ => by unfold z8; rw [if_pos hq]) hmem (fun x hx => absurd hx List.not_mem_nil) (by rw [List.append_nil]; exact hnd) hq
  · rw [if_neg hc] at q2
    subst q2
    refine ⟨_, c_X8_draw hl M1 o1 (n := e) (E := E) b3 b1 t13.1 t13.2.2.2.1, fun v2 M2 o2 q => ?_⟩
    obtain ⟨w1, w2, w3⟩ := q
    unfold mdR at w2
    rw [hke] at w1 w2
    by_cases hk : cKD M1 = 0
    · rw [if_pos hk] at w1 w2
      rw [if_neg (fun z => hc ⟨hk, z⟩)] at w2
      rw [w2]
      exact ⟨_, w1, w3, by rw [hk]; rfl, inv_thr h', fun _ => hout hk⟩
    · rw [if_neg hk] at w1 w2
      rw [w2]
      exact ⟨_, w1, w3, mset_same _ _ _ _, inv_thr h', fun z => absurd z hk⟩
