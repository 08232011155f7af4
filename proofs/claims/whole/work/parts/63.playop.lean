/-! THE TWO SIDES: a match is played. -/
theorem rls_mod {b : Nat} (hb : b = 11 ∨ 35 ≤ b) : b ∉ RLS := by
  intro z
  simp only [RLS, List.mem_cons, List.not_mem_nil, or_false] at z
  omega
theorem end_mod {M M' : Mem} {W H L : List Int32} {t : Int32} (h : endE M W H L t M') : (∀ b, b ≠ 3 → b ≠ 5 → b ≠ 6 → b ≠ 7 → b ≠ 17 → b ≠ 18 → b ≠ 19 → M' b = M b) ∧ ∀ q, q ≠ 8 → q ≠ 9 → M' 3 q = M 3 q := by
  rcases h with ⟨_, rfl⟩ | ⟨_, f, g, rfl, _, _⟩
  · refine ⟨fun b b3 b5 b6 b7 b17 b18 b19 => by simp [eM, mset, b3, b7, b19], fun q q8 q9 => ?_⟩
    show upd (M 3) 8 _ q = M 3 q
    rw [pk_un q8]
  · refine ⟨fun b b3 b5 b6 b7 b17 b18 b19 => by simp [eR, eM, mset, mrow, b3, b5, b6, b7, b17, b18, b19], fun q q8 q9 => ?_⟩
    show upd (upd (M 3) 8 _) 9 _ q = M 3 q
    rw [pk_un q9, pk_un q8]
theorem qrs_cls {b : Nat} (h1 : b ≠ 11) (h2 : b < 35) : b ∉ QRS := by
  intro z
  simp only [QRS, List.mem_cons, List.not_mem_nil, or_false] at z
  omega
theorem mend_cls {M M' : Mem} {E W H L : List Int32} {n : Nat} {t : Int32} (h : mendE M E W H L n t M') : (∀ b, b ≠ 11 → b ≠ 40 → b ≠ 41 → b ≠ 42 → b ≠ 43 → b ≠ 44 → b ≠ 45 → M' b = M b) ∧ ∀ q, q ≠ 10 → q ≠ 11 → q ≠ 18 → q ≠ 19 → q ≠ 23 → q ≠ 24 → M' 11 q = M 11 q := by
  rcases h with ⟨_, rfl⟩ | ⟨_, f, g, a, b, rfl, _⟩
  · refine ⟨fun b b1 b2 b3 b4 b5 b6 b7 => by simp [mM, mset, b1, b6], fun q q1 q2 q3 q4 q5 q6 => ?_⟩
    show upd (upd (M 11) 24 _) 11 _ q = _
    rw [pk_un q2, pk_un q6]
  · refine ⟨fun b b1 b2 b3 b4 b5 b6 b7 => by simp [bgM, enZ, mM, mset, mrow, b1, b2, b3, b4, b5, b6, b7], fun q q1 q2 q3 q4 q5 q6 => ?_⟩
    show upd (upd (upd (upd (upd (upd (upd (upd (M 11) 24 _) 11 _) 19 _) 18 _) 23 _) 24 _) 10 _) 23 _ q = _
    rw [pk_un q5, pk_un q1, pk_un q6, pk_un q5, pk_un q3, pk_un q4, pk_un q2, pk_un q6]
theorem op_play {l : Launch} (hl : l.stackTraces = false) (M : Mem) (o : Ou) {c : Nat} (hc : c ≤ 512) (a b : Int32) (h : Inv c M) : OpV l 188 [.ref 0, .int a, .int b, .ref 63] 143 [.ref 11, .int a, .int b] c M o Int32.toInt64 := by
  have h' := h
  obtain ⟨n, t, e, m, dd, r, pl, rd, E, W, H, L, h1, h2, h3, h4, h5⟩ := h
  obtain ⟨a1, a2, a3, a4, a5, a6, a7, a8, a9, a10, a11⟩ := id h1
  obtain ⟨s1, s2, s3, s4, s5, s6, s7, s8, s9, s10, s11, s12, s13, s14, s15⟩ := id h4
  obtain ⟨t1, t2, t3, t4, t5, t6, t7, t8, t9, t10, t11, t12, t13, t14, t15, t16, t17, t18, t19, t20, t21, t22, t23⟩ := id h3
  obtain ⟨z0, z1⟩ := sn_nx t14.le
  have hle := t14.le
  have bp : ∀ k, k < m → pl k < 8000000 := fun k hk => by have := s8 k hk; omega
  have br : ∀ k, k < m → rd k ≤ 2 := fun k hk => s9 k (by omega)
  by_cases hmt : L.length = (prs W H).length
  · -- no match is next
    have x0 : snF W H L.length 0 = -1 := by rw [z0]; unfold nxM; rw [if_pos hmt]
    have x1 : snF W H L.length 1 = -1 := by rw [z1]; unfold nxM; rw [if_pos hmt]
    have hkm : kPm a b L.length (prs W H).length = kPy a b (-1) (-1) := by unfold kPm kPy; rw [if_pos hmt, if_pos (Or.inl rfl)]
    have hk0 : ¬ kPy a b (-1) (-1) = 0 := by unfold kPy; rw [if_pos (Or.inl rfl)]; cases (wiF a 0 50 && wiF b 0 50) <;> decide
    have hkk : kPy a b (-1) (-1) ≤ 2 := by unfold kPy; exact cond2 (ite2 (by decide) (by decide)) (by decide)
    refine ⟨kPy a b (-1) (-1), _, hkk, w_play hl M o a b (by decide) (c_X7_play hl M o (W := W) (H := H) (L := L) (m := m) (N := 0) (pl := pl) (rd := rd) (x := -1) (y := -1) a b t6 t2 t3 t4 x0.symm x1.symm (Or.inl rfl) (Or.inl rfl) rfl rfl s2 s1 s5 s6 bp br (fun z => absurd rfl z)), fun v M1 o1 q => ?_⟩
    obtain ⟨q1, q2, q3⟩ := q
    unfold pyR at q2
    rw [if_neg (fun z => hk0 z.1)] at q2
    subst q2
    refine ⟨q1, _, c_X8_play hl M1 o1 (E := E) (W := W) (H := H) (L := L) (P := prs W H) (m := m) (N := 0) (pl := pl) (rd := rd) a b t13 t14 t15 rfl rfl rfl rfl s3 s1 (by rw [← s4]; exact s5) s7 bp br (fun z => by omega), fun v2 M2 o2 q => ?_⟩
    obtain ⟨w3, w1, w2⟩ := q
    rw [hkm] at w1 w2
    unfold mpR at w2
    rw [if_neg hk0] at w1 w2
    rw [w2]
    exact ⟨0, w1, w3, mset_same _ _ _ _, inv_thr h', fun z => absurd z hk0⟩
  · -- a match
    have hlt : L.length < (prs W H).length := by omega
    have hp8 := t14.len.1
    generalize hx : ((prs W H).getD L.length (0, 0)).1 = x at *
    generalize hy : ((prs W H).getD L.length (0, 0)).2 = y at *
    have x0 : snF W H L.length 0 = x := by rw [z0, ← hx]; unfold nxM; rw [if_neg hmt, if_pos rfl]
    have x1 : snF W H L.length 1 = y := by rw [z1, ← hy]; unfold nxM; rw [if_neg hmt, if_neg (by decide)]
    have hmm := prs_mem hlt
    rw [hx, hy] at hmm
    obtain ⟨ox, mx, nx, sx, bx1, bx2⟩ := tm_of h1 (t17 _ (t19 _ hmm.1))
    obtain ⟨oy, my, ny, sy, by1, by2⟩ := tm_of h1 (t17 _ (t19 _ hmm.2))
    have hdr : ¬ M 3 5 = 0 := by
      intro z
      obtain ⟨u1, u2, u3, _⟩ := t21 z
      rw [u1, u2, u3] at hmt
      exact hmt rfl
    obtain ⟨N, n4, n6, hN⟩ := t22 (t23 hdr).1
    have hN' : M 11 9 = nI N := by rw [← t10]; exact hN
    have sb1 := sub_int (a := cSum M y) (b := cSum M x) (by omega) (by omega) (by omega) (by omega)
    have sb2 := sub_int (a := cSum M x) (b := cSum M y) (by omega) (by omega) (by omega) (by omega)
    have hv : ∀ g, scF (M 12) (M 14) (M 3 7) g x y = scM M g x y := fun g => by
      unfold scF scM; rw [sx, sy, hN, hN', ← hv_gh (d := cSum M y - cSum M x) (by omega) n6]
    have hw : ∀ g, scF (M 12) (M 14) (M 3 7) g y x = scM M g y x := fun g => by
      unfold scF scM; rw [sx, sy, hN, hN', ← hv_gh (d := cSum M x - cSum M y) (by omega) n6]
    have hkm : kPm a b L.length (prs W H).length = kPy a b x y := by unfold kPm kPy; rw [if_neg hmt, if_neg (fun z => z.elim nx ny)]
    have hkk : kPy a b x y ≤ 2 := by unfold kPy; exact cond2 (ite2 (by decide) (by decide)) (by decide)
    -- what holds of either loser
    have lf : ∀ u, u = x ∨ u = y → LoO (prs W H) (L ++ [u]) ∧ (L ++ [u]).Nodup ∧ (∀ z ∈ L ++ [u], z ∈ W ++ H) := by
      intro u hu
      have h6 := lo_app (P := prs W H) t20 (by rw [hx, hy]; exact hu)
      have h7 := lo_nd t18 h6 (by rw [List.length_append]; show L.length + 1 ≤ _; omega)
      exact ⟨h6, h7.1, h7.2⟩
    have hs8 : W.length + H.length ≤ 8 := t13.2.2.2.2.2.2
    have hv8 : ∀ z ∈ W ++ H, vp_in z 8 := fun z hz => t13.2.2.2.1 z (t19 z hz)
    have ho8 : ∀ u, u = x ∨ u = y → (wN W (L ++ [u])).length + (Jvm.Pilot.CPoloSeasonLaw_law_r5675_952e98.hN W H (L ++ [u])).length ≤ 8 := fun u hu => by
      have := (round_nd t18 (lf u hu).2.1 (lf u hu).2.2).2.2
      omega
    refine ⟨kPy a b x y, _, hkk, w_play hl M o a b (by decide) (c_X7_play hl M o (W := W) (H := H) (L := L) (m := m) (N := N) (pl := pl) (rd := rd) (x := x) (y := y) a b t6 t2 t3 t4 x0.symm x1.symm ox oy rfl rfl s2 s1 s5 s6 bp br (fun _ => ⟨by omega, n6, hN, by omega, by have := ho8 x (Or.inl rfl); omega, by have := ho8 y (Or.inr rfl); omega⟩)), fun v M1 o1 q => ?_⟩
    obtain ⟨q1, q2, q3⟩ := q
    refine ⟨q1, ?_⟩
    rw [hv a, hw b] at q2 q3
    generalize hV : scM M a x y = V at q2 q3
    generalize hU : scM M b y x = U at q2 q3
    unfold pyR at q2
    by_cases hc2 : kPy a b x y = 0 ∧ ¬ V = U
    · rw [if_pos hc2] at q2
      obtain ⟨M', pl', rd', af', hRF, hC, hS1, haf, bp1, br1, hE⟩ := q2
      have hem := end_mod hE
      have hmod : ∀ b, b = 11 ∨ 35 ≤ b → M1 b = M b := fun b hb => (hem.1 b (by omega) (by omega) (by omega) (by omega) (by omega) (by omega) (by omega)).trans (hRF.1 b (rls_mod hb))
      have m11 := hmod 11 (Or.inl rfl)
      have hR1 : MR M1 E W H := by
        have := t13
        unfold MR at this ⊢
        rw [hmod 38 (by decide), hmod 40 (by decide), hmod 41 (by decide), m11]
        exact this
      have hP1 : MP M1 (prs W H) L.length := by
        have := t14
        unfold MP at this ⊢
        rw [hmod 42 (by decide), hmod 43 (by decide), m11]
        exact this
      have esc : ∀ g p q, scM M1 g p q = scM M g p q := fun g p q => by unfold scM mSum; rw [hmod 35 (by decide), hmod 37 (by decide), m11]
      have hS7 : MSt M1 pl rd := by
        have := s7
        unfold MSt at this ⊢
        rw [hmod 47 (by decide), hmod 48 (by decide)]
        exact this
      have hok : ∀ z, mOk M z → mOk M1 z := fun z hz => by unfold mOk at hz ⊢; rw [hmod 37 (by decide)]; exact hz
      have hown : M1 46 = M 20 := (hmod 46 (by decide)).trans s4.symm
      refine ⟨_, c_X8_play hl M1 o1 (E := E) (W := W) (H := H) (L := L) (P := prs W H) (m := m) (N := N) (pl := pl) (rd := rd) (x := x) (y := y) (v := V) (w := U) a b hR1 hP1 (by rw [hmod 44 (by decide)]; exact t15) hx.symm hy.symm (by rw [esc]; exact hV.symm) (by rw [esc]; exact hU.symm) ((congrFun m11 _).trans s3) s1 (by rw [hown]; exact s5) hS7 bp br (fun _ => ⟨by omega, n6, (congrFun m11 _).trans hN', hok x mx, hok y my, fun u hu => ⟨fun z hz => hv8 z ((lf u hu).2.2 z hz), fun z hz => ?_, ho8 u hu, fun z hz => hv8 z ((round_nd t18 (lf u hu).2.1 (lf u hu).2.2).2.1 z (List.mem_append_right _ hz))⟩⟩), fun v2 M2 o2 q => ?_⟩
      · have hzz := (lf u hu).2.2 z hz
        obtain ⟨j, hj, rfl⟩ := vp_in_of (hv8 z hzz) (by decide)
        rw [hmod 45 (by decide), nI_clamp (by omega), (t23 hdr).2 j hj]
        unfold poF
        rw [if_neg (show ¬ ((1 : Int32) = 0 ∨ nI j ∉ E) from fun w => w.elim (by decide) (fun w => w (t19 _ hzz))), if_neg (show ¬ (nI j ∉ W ∧ nI j ∉ H) from fun w => (List.mem_append.mp hzz).elim w.1 w.2), if_neg (prs_two hlt)]
        by_cases w : nI j ∈ W
        · rw [if_pos w]; exact ⟨fun _ => w, fun _ => rfl⟩
        · rw [if_neg w]; exact ⟨fun z => absurd z (by decide), fun z => absurd z w⟩
      · obtain ⟨w3, w1, w2⟩ := q
        rw [hkm, hc2.1, if_pos rfl] at w1
        rw [hkm, hc2.1] at w2
        unfold mpR at w2
        rw [if_pos rfl, if_neg hc2.2] at w2
        obtain ⟨M3, pl2, rd2, af2, hQ, hC2, hS2, haf2, bp2, br2, hE2⟩ := w2
        have hmc := mend_cls hE2
        obtain ⟨X, hX, hxX, mX⟩ := mx
        obtain ⟨Y, hY, hyY, mY⟩ := my
        have hcx : x.toNatClampNeg = X := by rw [hxX, nI_clamp (by omega)]
        have hcy : y.toNatClampNeg = Y := by rw [hyY, nI_clamp (by omega)]
        have hseq : seqL (tmG M1 X Y) 8 0 = seqL (fun q => M 14 (4 * X + q)) 4 0 ++ seqL (fun q => M 14 (4 * Y + q)) 4 0 := by
          unfold tmG
          rw [hmod 37 (by decide), show M 37 = M 14 from a9.symm]
          rfl
        rw [hcx, hcy] at hC hC2
        rw [hseq, hown, show M1 49 = M 23 from (hmod 49 (by decide)).trans s11.symm, show M1 11 31 = M 8 5 from (congrFun m11 _).trans (s14.trans s13.symm), show M1 11 32 = M 0 6 from (congrFun m11 _).trans s15.symm] at hC2
        obtain ⟨e1, e2, e3⟩ := cm_same (by omega) hC hC2
        subst e1 e2 e3
        refine ⟨_, w1, w3, ?_, ?_, fun hk => by rw [q3, if_pos hk]; exact pk_uLs⟩
        · rw [hmc.2 0 (by decide) (by decide) (by decide) (by decide) (by decide) (by decide), hQ.2 0 (by decide) (by decide) (by decide) (by decide), hc2.1]
          exact mset_same _ _ _ _
        · have hu : (if V ≤ U then x else y) = x ∨ (if V ≤ U then x else y) = y := by
            split
            · exact Or.inl rfl
            · exact Or.inr rfl
          generalize (if V ≤ U then x else y) = u at hE hE2 hu
          obtain ⟨lu1, lu2, lu3⟩ := lf u hu
          have gC : ∀ b, b < 35 → b ≠ 11 → M2 b = M1 b := fun b b1 b2 => by
            rw [hmc.1 b b2 (by omega) (by omega) (by omega) (by omega) (by omega) (by omega), hQ.1 b (qrs_cls b2 b1)]
            simp [thr, mset, b2]
          have nb : ∀ b, 35 ≤ b → b ∉ QRS → M3 b = M b := fun b b1 b2 => by
            rw [hQ.1 b b2, ← hmod b (Or.inr b1)]
            simp [thr, mset, show b ≠ 11 by omega]
          have gM : ∀ b, 35 ≤ b → b ∉ QRS → b ≠ 40 → b ≠ 41 → b ≠ 42 → b ≠ 43 → b ≠ 44 → b ≠ 45 → M2 b = M b := fun b b1 b2 c1 c2 c3 c4 c5 c6 => (hmc.1 b (by omega) c1 c2 c3 c4 c5 c6).trans (nb b b1 b2)
          have n11 : ∀ q, q ≠ 0 → q ≠ 32 → q ≠ 35 → q ≠ 38 → q ≠ 41 → M3 11 q = M 11 q := fun q c0 c1 c2 c3 c4 => by
            rw [hQ.2 q c1 c2 c3 c4, show thr M1 0 11 q = M1 11 q from pk_un c0, m11]
          have g11 : ∀ q, q ≠ 0 → q ≠ 32 → q ≠ 35 → q ≠ 38 → q ≠ 41 → q ≠ 10 → q ≠ 11 → q ≠ 18 → q ≠ 19 → q ≠ 23 → q ≠ 24 → M2 11 q = M 11 q := fun q c0 c1 c2 c3 c4 d1 d2 d3 d4 d5 d6 => (hmc.2 q d1 d2 d3 d4 d5 d6).trans (n11 q c0 c1 c2 c3 c4)
          have gK : ∀ b, b < 35 → b ≠ 11 → b ∉ RLS → b ≠ 3 → b ≠ 5 → b ≠ 6 → b ≠ 7 → b ≠ 17 → b ≠ 18 → b ≠ 19 → M2 b = M b := fun b b1 b2 b3 c1 c2 c3 c4 c5 c6 c7 => (gC b b1 b2).trans ((hem.1 b c1 c2 c3 c4 c5 c6 c7).trans (hRF.1 b b3))
          have c3 : M' 3 = M 3 := hRF.1 3 (by decide)
          have hSta : StaI M2 (c + 1) m dd pl' rd' := by
            refine ⟨s1, ?_, ?_, ?_, ?_, ⟨fun k hk => ?_, fun k hk => ?_⟩, ⟨fun k hk => ?_, fun k hk => ?_⟩, fun k hk => ?_, fun k hk => ?_, fun k k1 k2 => ?_, ?_, s12, ?_, ?_, ?_⟩
            · rw [gK 8 (by decide) (by decide) (by decide) (by decide) (by decide) (by decide) (by decide) (by decide) (by decide) (by decide)]; exact s2
            · rw [g11 30 (by decide) (by decide) (by decide) (by decide) (by decide) (by decide) (by decide) (by decide) (by decide) (by decide) (by decide)]; exact s3
            · rw [gK 20 (by decide) (by decide) (by decide) (by decide) (by decide) (by decide) (by decide) (by decide) (by decide) (by decide), gM 46 (by decide) (by decide) (by decide) (by decide) (by decide) (by decide) (by decide) (by decide)]; exact s4
            · rw [gK 20 (by decide) (by decide) (by decide) (by decide) (by decide) (by decide) (by decide) (by decide) (by decide) (by decide)]; exact s5
            · rw [gC 21 (by decide) (by decide), hem.1 21 (by decide) (by decide) (by decide) (by decide) (by decide) (by decide) (by decide)]; exact hS1.1 k hk
            · rw [gC 22 (by decide) (by decide), hem.1 22 (by decide) (by decide) (by decide) (by decide) (by decide) (by decide) (by decide)]; exact hS1.2 k hk
            · rw [hmc.1 47 (by decide) (by decide) (by decide) (by decide) (by decide) (by decide) (by decide)]; exact hS2.1 k hk
            · rw [hmc.1 48 (by decide) (by decide) (by decide) (by decide) (by decide) (by decide) (by decide)]; exact hS2.2 k hk
            · have := bp1 k hk; have := s8 k hk; omega
            · by_cases w : k < m
              · exact br1 k w
              · rw [(hC.out (by omega) k (by omega)).2]; exact s9 k hk
            · obtain ⟨o1, o2⟩ := hC.out (by omega) k k1
              rw [o1, o2]; exact s10 k k1 k2
            · rw [gK 23 (by decide) (by decide) (by decide) (by decide) (by decide) (by decide) (by decide) (by decide) (by decide) (by decide), gM 49 (by decide) (by decide) (by decide) (by decide) (by decide) (by decide) (by decide) (by decide)]; exact s11
            · rw [gK 8 (by decide) (by decide) (by decide) (by decide) (by decide) (by decide) (by decide) (by decide) (by decide) (by decide)]; exact s13
            · rw [g11 31 (by decide) (by decide) (by decide) (by decide) (by decide) (by decide) (by decide) (by decide) (by decide) (by decide) (by decide)]; exact s14
            · rw [gC 0 (by decide) (by decide), hem.1 0 (by decide) (by decide) (by decide) (by decide) (by decide) (by decide) (by decide), hmc.2 32 (by decide) (by decide) (by decide) (by decide) (by decide) (by decide)]
              exact haf.trans haf2.symm
          have hfin : ∀ W' H' L', TouI M2 t E W' H' L' → Inv (c + 1) M2 := by
            intro W' H' L' hT
            refine ⟨n, t, e, m, dd, r, pl', rd', E, W', H', L', h1.agr (fun b hb => ?_) (fun q hq => ?_), h2.agr (fun b hb => ?_) ?_, hT, hSta, h5.agr (fun b hb => ?_) (fun q hq1 hq2 => ?_)⟩
            · rcases hb with rfl | rfl | rfl | rfl | rfl | rfl | rfl
              · exact gK _ (by decide) (by decide) (by decide) (by decide) (by decide) (by decide) (by decide) (by decide) (by decide) (by decide)
              · exact gK _ (by decide) (by decide) (by decide) (by decide) (by decide) (by decide) (by decide) (by decide) (by decide) (by decide)
              · exact gK _ (by decide) (by decide) (by decide) (by decide) (by decide) (by decide) (by decide) (by decide) (by decide) (by decide)
              · exact gK _ (by decide) (by decide) (by decide) (by decide) (by decide) (by decide) (by decide) (by decide) (by decide) (by decide)
              · exact gM _ (by decide) (by decide) (by decide) (by decide) (by decide) (by decide) (by decide) (by decide)
              · exact gM _ (by decide) (by decide) (by decide) (by decide) (by decide) (by decide) (by decide) (by decide)
              · exact gM _ (by decide) (by decide) (by decide) (by decide) (by decide) (by decide) (by decide) (by decide)
            · exact g11 q (by omega) (by omega) (by omega) (by omega) (by omega) (by omega) (by omega) (by omega) (by omega) (by omega) (by omega)
            · rcases hb with rfl | rfl | rfl
              · exact gK _ (by decide) (by decide) (by decide) (by decide) (by decide) (by decide) (by decide) (by decide) (by decide) (by decide)
              · exact gK _ (by decide) (by decide) (by decide) (by decide) (by decide) (by decide) (by decide) (by decide) (by decide) (by decide)
              · exact gM _ (by decide) (by decide) (by decide) (by decide) (by decide) (by decide) (by decide) (by decide)
            · exact g11 15 (by decide) (by decide) (by decide) (by decide) (by decide) (by decide) (by decide) (by decide) (by decide) (by decide) (by decide)
            · rcases hb with rfl | rfl | rfl | rfl | rfl | rfl | rfl | rfl | rfl | rfl | rfl
              · exact gK _ (by decide) (by decide) (by decide) (by decide) (by decide) (by decide) (by decide) (by decide) (by decide) (by decide)
              · exact gK _ (by decide) (by decide) (by decide) (by decide) (by decide) (by decide) (by decide) (by decide) (by decide) (by decide)
              · exact gK _ (by decide) (by decide) (by decide) (by decide) (by decide) (by decide) (by decide) (by decide) (by decide) (by decide)
              · exact gK _ (by decide) (by decide) (by decide) (by decide) (by decide) (by decide) (by decide) (by decide) (by decide) (by decide)
              · exact gK _ (by decide) (by decide) (by decide) (by decide) (by decide) (by decide) (by decide) (by decide) (by decide) (by decide)
              · exact gK _ (by decide) (by decide) (by decide) (by decide) (by decide) (by decide) (by decide) (by decide) (by decide) (by decide)
              · exact gM _ (by decide) (by decide) (by decide) (by decide) (by decide) (by decide) (by decide) (by decide)
              · exact gM _ (by decide) (by decide) (by decide) (by decide) (by decide) (by decide) (by decide) (by decide)
              · exact gM _ (by decide) (by decide) (by decide) (by decide) (by decide) (by decide) (by decide) (by decide)
              · exact gM _ (by decide) (by decide) (by decide) (by decide) (by decide) (by decide) (by decide) (by decide)
              · exact gM _ (by decide) (by decide) (by decide) (by decide) (by decide) (by decide) (by decide) (by decide)
            · exact g11 q (by omega) (by omega) (by omega) (by omega) (by omega) (by omega) (by omega) (by omega) (by omega) (by omega) (by omega)
          have el : (L ++ [u]).length = L.length + 1 := by rw [List.length_append]; rfl
          have hiff : snF W H (L.length + 1) 0 = -1 ↔ L.length + 1 = (prs W H).length := by
            rw [(sn_nx (W := W) (H := H) (m := L.length + 1) (by omega)).1]
            unfold nxM
            by_cases w : L.length + 1 = (prs W H).length
            · rw [if_pos w]; exact ⟨fun _ => w, fun _ => rfl⟩
            · rw [if_neg w, if_pos rfl]
              refine ⟨fun z => ?_, fun z => absurd z w⟩
              have := (prs_mem (W := W) (H := H) (m := L.length + 1) (by omega)).1
              exact absurd z (tm_of h1 (t17 _ (t19 _ this))).2.2.1
          obtain ⟨r1, r2, r3, r4, r5, r6, r7⟩ := t13
          have k4 : M2 4 = M 4 := gK 4 (by decide) (by decide) (by decide) (by decide) (by decide) (by decide) (by decide) (by decide) (by decide) (by decide)
          have k16 : M2 16 = M 16 := gK 16 (by decide) (by decide) (by decide) (by decide) (by decide) (by decide) (by decide) (by decide) (by decide) (by decide)
          have hrE : rl M2 4 E := by unfold rl; rw [show (4 : Nat) + 12 = 16 from rfl, k16, k4]; exact t1
          have k3 : ∀ q, q ≠ 8 → q ≠ 9 → M2 3 q = M 3 q := fun q q8 q9 => by rw [gC 3 (by decide) (by decide), hem.2 q q8 q9, c3]
          have k11 : ∀ q, q = 6 ∨ q = 7 ∨ q = 8 ∨ q = 9 ∨ q = 13 → M2 11 q = M 11 q := fun q hq => g11 q (by omega) (by omega) (by omega) (by omega) (by omega) (by omega) (by omega) (by omega) (by omega) (by omega) (by omega)
          have k38 : M2 38 = M 38 := gM 38 (by decide) (by decide) (by decide) (by decide) (by decide) (by decide) (by decide) (by decide)
          have bz5 : bz (M2 3 4) := by rw [k3 4 (by decide) (by decide)]; exact t5
          have bz6 : bz (M2 3 5) := by rw [k3 5 (by decide) (by decide)]; exact t6
          have q7 : M2 3 4 = M2 11 6 := by rw [k3 4 (by decide) (by decide), k11 6 (by decide)]; exact t7
          have q8 : M2 3 5 = M2 11 7 := by rw [k3 5 (by decide) (by decide), k11 7 (by decide)]; exact t8
          have q9 : M2 3 6 = M2 11 8 := by rw [k3 6 (by decide) (by decide), k11 8 (by decide)]; exact t9
          have q10 : M2 3 7 = M2 11 9 := by rw [k3 7 (by decide) (by decide), k11 9 (by decide)]; exact t10
          have q22 : ¬ M2 3 4 = 0 → ∃ N, 4 ≤ N ∧ N ≤ 6 ∧ M2 3 7 = nI N := by rw [k3 4 (by decide) (by decide), k3 7 (by decide) (by decide)]; exact t22
          have hd2 : ¬ M2 3 5 = 0 := by rw [k3 5 (by decide) (by decide)]; exact hdr
          have ho2 : ¬ M2 3 4 = 0 := by rw [k3 4 (by decide) (by decide)]; exact (t23 hdr).1
          have hMR1 : Lst (M2 38) (M2 11 13) E := by rw [k38, k11 13 (by decide)]; exact r1
          rcases hE with ⟨hns, hM1⟩ | ⟨hns, f, g, hM1, hf, hg⟩
          · have hne : ¬ L.length + 1 = (prs W H).length := fun z => hns (hiff.mpr z)
            rcases hE2 with ⟨_, hM2⟩ | ⟨z, _⟩
            rotate_left
            · exact absurd z hne
            refine hfin W H (L ++ [u]) ⟨hrE, ?_, ?_, ?_, bz5, bz6, q7, q8, q9, q10, ?_, ?_, ⟨hMR1, ?_, ?_, r4, r5, r6, r7⟩, ⟨?_, ?_, ?_, by rw [el]; omega⟩, ?_, t16, t17, t18, t19, lu1, fun z => absurd z hd2, q22, fun _ => ⟨ho2, fun q hq => ?_⟩⟩
            · unfold rl; rw [gC (5 + 12) (by decide) (by decide), gC 5 (by decide) (by decide), hM1, show eM M' L.length u (5 + 12) = M (5 + 12) from hRF.1 17 (by decide), show eM M' L.length u 5 = M 5 from hRF.1 5 (by decide)]; exact t2
            · unfold rl; rw [gC (6 + 12) (by decide) (by decide), gC 6 (by decide) (by decide), hM1, show eM M' L.length u (6 + 12) = M (6 + 12) from hRF.1 18 (by decide), show eM M' L.length u 6 = M 6 from hRF.1 6 (by decide)]; exact t3
            · unfold rl; rw [gC (7 + 12) (by decide) (by decide), gC 7 (by decide) (by decide), hM1, show eM M' L.length u (7 + 12) = upd (M' 19) L.length u from rfl, hRF.1 19 (by decide)]
              exact Lst.app t4 (by omega) u
            · rw [gC 3 (by decide) (by decide), hM1, hM2, show eM M' L.length u 3 8 = M' 3 8 + 1 from rfl, show mM M3 L.length u 11 11 = M3 11 11 + 1 from rfl, n11 11 (by decide) (by decide) (by decide) (by decide) (by decide), c3, t11]
            · rw [gC 3 (by decide) (by decide), hM1, hM2, show eM M' L.length u 3 9 = M' 3 9 from rfl, show mM M3 L.length u 11 10 = M3 11 10 from rfl, n11 10 (by decide) (by decide) (by decide) (by decide) (by decide), c3, t12]
            · rw [hM2, show mM M3 L.length u 40 = M 40 from nb 40 (by decide) (by decide), show mM M3 L.length u 11 18 = M 11 18 from n11 18 (by decide) (by decide) (by decide) (by decide) (by decide)]; exact r2
            · rw [hM2, show mM M3 L.length u 41 = M 41 from nb 41 (by decide) (by decide), show mM M3 L.length u 11 19 = M 11 19 from n11 19 (by decide) (by decide) (by decide) (by decide) (by decide)]; exact r3
            · rw [hM2, show mM M3 L.length u 42 = M 42 from nb 42 (by decide) (by decide), show mM M3 L.length u 11 23 = M 11 23 from n11 23 (by decide) (by decide) (by decide) (by decide) (by decide)]; exact t14.a
            · rw [hM2, show mM M3 L.length u 43 = M 43 from nb 43 (by decide) (by decide), show mM M3 L.length u 11 23 = M 11 23 from n11 23 (by decide) (by decide) (by decide) (by decide) (by decide)]; exact t14.b
            · rw [hM2, el]; rfl
            · intro j hj
              rw [el] at hj
              rw [hM2, show mM M3 L.length u 44 = upd (M3 44) L.length u from rfl, nb 44 (by decide) (by decide)]
              by_cases w : j < L.length
              · rw [pk_un (by omega), app_getD_l w]; exact t15 j w
              · have e5 : j = L.length + 0 := by omega
                rw [e5, app_getD_r, Nat.add_zero, pk_us]; rfl
            · rw [hM2, show mM M3 L.length u 45 = M 45 from nb 45 (by decide) (by decide)]; exact (t23 hdr).2 q hq
          · have heq : L.length + 1 = (prs W H).length := hiff.mp hns
            rcases hE2 with ⟨z, _⟩ | ⟨_, f', g', a', b', hM2, hf', hg', ha', hb'⟩
            · exact absurd heq z
            obtain ⟨rn1, rn2, rn3⟩ := round_nd t18 lu2 lu3
            generalize hW' : wN W (L ++ [u]) = W' at hM1 hg hM2 hf' hg' ha' hb' rn1 rn2 rn3
            generalize hH' : Jvm.Pilot.CPoloSeasonLaw_law_r5675_952e98.hN W H (L ++ [u]) = H' at hM1 hf hM2 hf' hg' ha' hb' rn1 rn2 rn3
            have hdM' : M' 3 5 = M 3 5 := congrFun c3 _
            have hin' : ∀ x ∈ W' ++ H', x ∈ E := fun x hx => t19 x (rn2 x hx)
            refine hfin W' H' [] ⟨hrE, ?_, ?_, ?_, bz5, bz6, q7, q8, q9, q10, ?_, ?_, ⟨hMR1, ?_, ?_, r4, fun x hx => hv8 x (rn2 x (List.mem_append_left _ hx)), fun x hx => hv8 x (rn2 x (List.mem_append_right _ hx)), by omega⟩, ⟨?_, ?_, ?_, Nat.zero_le _⟩, fun j hj => absurd hj (Nat.not_lt_zero _), t16, t17, rn1, hin', fun j hj => absurd hj (Nat.not_lt_zero _), fun z => absurd z hd2, q22, fun _ => ⟨ho2, fun q hq => ?_⟩⟩
            · unfold rl; rw [gC (5 + 12) (by decide) (by decide), gC 5 (by decide) (by decide), hM1]; exact hg
            · unfold rl; rw [gC (6 + 12) (by decide) (by decide), gC 6 (by decide) (by decide), hM1]; exact hf
            · unfold rl; rw [gC (7 + 12) (by decide) (by decide), gC 7 (by decide) (by decide), hM1]; exact Lst.nil
            · rw [gC 3 (by decide) (by decide), hM1, hM2]
              show M' 3 8 + 1 = M3 11 11 + 1
              rw [n11 11 (by decide) (by decide) (by decide) (by decide) (by decide), c3, t11]
            · rw [gC 3 (by decide) (by decide), hM1, hM2]
              show (if wnF (M' 3 5) W' H' = true then M' 3 9 else M' 3 9 + 1) = rdF W' H' (M3 11 10)
              rw [n11 10 (by decide) (by decide) (by decide) (by decide) (by decide), hdM', c3, t12]
              unfold wnF rdF
              by_cases w : W'.length + H'.length = 1
              · rw [if_pos (show (!decide (M 3 5 = 0) && decide (W'.length + H'.length = 1)) = true by rw [decide_eq_false hdr, decide_eq_true w]; rfl), if_pos w]
              · rw [if_neg (show ¬ (!decide (M 3 5 = 0) && decide (W'.length + H'.length = 1)) = true by rw [decide_eq_false w, Bool.and_false]; decide), if_neg w]
            · rw [hM2]; exact hg'
            · rw [hM2]; exact hf'
            · rw [hM2]; exact ha'
            · rw [hM2]; exact hb'
            · rw [hM2]; rfl
            · rw [hM2]
              show plcF (M3 45) E W' H' q = _
              rw [nb 45 (by decide) (by decide)]
              refine plc_po (fun q hq hno => ?_) (fun x hx => hin' x (List.mem_append_left _ hx)) (fun x hx => hin' x (List.mem_append_right _ hx)) rn1 hq
              rw [(t23 hdr).2 q hq]
              unfold poF
              rw [if_pos (Or.inr hno)]
    · rw [if_neg hc2] at q2
      subst q2
      refine ⟨_, c_X8_play hl M1 o1 (E := E) (W := W) (H := H) (L := L) (P := prs W H) (m := m) (N := N) (pl := pl) (rd := rd) (x := x) (y := y) (v := V) (w := U) a b t13 t14 t15 hx.symm hy.symm hV.symm hU.symm s3 s1 (by rw [← s4]; exact s5) s7 bp br (fun _ => ⟨by omega, n6, hN', mx, my, fun u hu => ⟨fun z hz => hv8 z ((lf u hu).2.2 z hz), fun z hz => ?_, ho8 u hu, fun z hz => hv8 z ((round_nd t18 (lf u hu).2.1 (lf u hu).2.2).2.1 z (List.mem_append_right _ hz))⟩⟩), fun v2 M2 o2 q => ?_⟩
      · have hzz := (lf u hu).2.2 z hz
        obtain ⟨j, hj, rfl⟩ := vp_in_of (hv8 z hzz) (by decide)
        rw [nI_clamp (by omega), (t23 hdr).2 j hj]
        unfold poF
        rw [if_neg (show ¬ ((1 : Int32) = 0 ∨ nI j ∉ E) from fun w => w.elim (by decide) (fun w => w (t19 _ hzz))), if_neg (show ¬ (nI j ∉ W ∧ nI j ∉ H) from fun w => (List.mem_append.mp hzz).elim w.1 w.2), if_neg (prs_two hlt)]
        by_cases w : nI j ∈ W
        · rw [if_pos w]; exact ⟨fun _ => w, fun _ => rfl⟩
        · rw [if_neg w]; exact ⟨fun z => absurd z (by decide), fun z => absurd z w⟩
      · obtain ⟨w3, w1, w2⟩ := q
        rw [hkm] at w1 w2
        unfold mpR at w2
        by_cases hk : kPy a b x y = 0
        · rw [if_pos hk] at w1 w2
          have hVU : V = U := Classical.byContradiction (fun z => hc2 ⟨hk, z⟩)
          rw [if_pos hVU] at w2
          rw [w2]
          exact ⟨_, w1, w3, by rw [hk]; rfl, inv_thr h', fun _ => by rw [q3, if_pos hk]; exact pk_uLs⟩
        · rw [if_neg hk] at w1 w2
          rw [w2]
          exact ⟨_, w1, w3, mset_same _ _ _ _, inv_thr h', fun z => absurd z hk⟩
