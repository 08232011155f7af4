/-! THE TWO SIDES: a mount is told. -/
theorem RosI.agr {M M2 : Mem} {n t : Nat} (h : RosI M n t) (e : ∀ a, a = 1 ∨ a = 12 ∨ a = 13 ∨ a = 14 ∨ a = 35 ∨ a = 36 ∨ a = 37 → M2 a = M a) (f : ∀ q, q = 3 ∨ q = 5 → M2 11 q = M 11 q) : RosI M2 n t := by
  unfold RosI at h ⊢
  rw [e 1 (by decide), e 12 (by decide), e 13 (by decide), e 14 (by decide), e 35 (by decide), e 36 (by decide), e 37 (by decide), f 3 (by decide), f 5 (by decide)]
  exact h
theorem NoiI.agr {M M2 : Mem} {x : Nat} (h : NoiI M x) (e : ∀ a, a = 2 ∨ a = 15 ∨ a = 39 → M2 a = M a) (f : M2 11 15 = M 11 15) : NoiI M2 x := by
  unfold NoiI at h ⊢
  rw [e 2 (by decide), e 15 (by decide), e 39 (by decide), f]
  exact h
theorem LinI.agr {M M2 : Mem} {r : Nat} (h : LinI M r) (e : ∀ a, a = 10 ∨ a = 30 ∨ a = 31 ∨ a = 32 ∨ a = 33 ∨ a = 34 ∨ a = 58 ∨ a = 59 ∨ a = 60 ∨ a = 61 ∨ a = 62 → M2 a = M a) (f : ∀ q, 44 ≤ q → q ≤ 49 → M2 11 q = M 11 q) : LinI M2 r := by
  unfold LinI at h ⊢
  rw [e 10 (by decide), e 30 (by decide), e 31 (by decide), e 32 (by decide), e 33 (by decide), e 34 (by decide), e 58 (by decide), e 59 (by decide), e 60 (by decide), e 61 (by decide), e 62 (by decide), f 44 (by decide) (by decide), f 45 (by decide) (by decide), f 46 (by decide) (by decide), f 47 (by decide) (by decide), f 48 (by decide) (by decide), f 49 (by decide) (by decide)]
  exact h
theorem StaI.agr {M M2 : Mem} {c m dy : Nat} {pl rd : Nat → Nat} (h : StaI M c m dy pl rd) (e : ∀ a, a = 8 ∨ a = 20 ∨ a = 21 ∨ a = 22 ∨ a = 23 ∨ a = 46 ∨ a = 47 ∨ a = 48 ∨ a = 49 → M2 a = M a) (f : ∀ q, q = 30 ∨ q = 31 ∨ q = 32 → M2 11 q = M 11 q) (g : M2 0 6 = M 0 6) : StaI M2 c m dy pl rd := by
  unfold StaI CSt MSt at h ⊢
  rw [e 8 (by decide), e 20 (by decide), e 21 (by decide), e 22 (by decide), e 23 (by decide), e 46 (by decide), e 47 (by decide), e 48 (by decide), e 49 (by decide), f 30 (by decide), f 31 (by decide), f 32 (by decide), g]
  exact h
theorem TouI.agr {M M2 : Mem} {t : Nat} {E W H L : List Int32} (h : TouI M t E W H L) (e : ∀ a, a = 3 ∨ a = 4 ∨ a = 5 ∨ a = 6 ∨ a = 7 ∨ a = 16 ∨ a = 17 ∨ a = 18 ∨ a = 19 ∨ a = 38 ∨ a = 40 ∨ a = 41 ∨ a = 42 ∨ a = 43 ∨ a = 44 ∨ a = 45 → M2 a = M a) (f : ∀ q, (6 ≤ q ∧ q ≤ 11) ∨ q = 13 ∨ q = 18 ∨ q = 19 ∨ q = 23 ∨ q = 24 → M2 11 q = M 11 q) : TouI M2 t E W H L := by
  unfold TouI MR MP rl at h ⊢
  rw [show (4 : Nat) + 12 = 16 from rfl, show (5 : Nat) + 12 = 17 from rfl, show (6 : Nat) + 12 = 18 from rfl, show (7 : Nat) + 12 = 19 from rfl] at h ⊢
  rw [e 3 (by decide), e 4 (by decide), e 5 (by decide), e 6 (by decide), e 7 (by decide), e 16 (by decide), e 17 (by decide), e 18 (by decide), e 19 (by decide), e 38 (by decide), e 40 (by decide), e 41 (by decide), e 42 (by decide), e 43 (by decide), e 44 (by decide), e 45 (by decide), f 6 (by decide), f 7 (by decide), f 8 (by decide), f 9 (by decide), f 10 (by decide), f 11 (by decide), f 13 (by decide), f 18 (by decide), f 19 (by decide), f 23 (by decide), f 24 (by decide)]
  exact h
theorem w_mountE {l : Launch} (hl : l.stackTraces = false) (M : Mem) (o : Ou) {k d : Nat} {R : Int32 → Mem → Prop} {R0 : Mem → Prop} (a0 a1 a2 : Int32) (hd : d < 150) (h : Ct l d 8 101 [.ref 0, .int a0, .int a1, .int a2] M o (fun v M' o' => k = 0 ∧ o' = o ∧ ∃ r, v = some (.int r) ∧ R r M') (xF IOB IAE k R0 o)) : Ct l 150 8 194 [.ref 0, .int a0, .int a1, .int a2, .ref 63] M o (fun v M' o' => v = some (.int (nI k)) ∧ ((k = 0 ∧ ∃ r, R r M' ∧ o' = vp_updL o 0 (r.toInt64)) ∨ (¬ k = 0 ∧ R0 M' ∧ o' = o))) nX := by
  refine ct_catch ok194 (by decide) (by decide) rfl rfl rfl (by decide) (by decide) (Nat.le_of_ble_eq_true rfl) (fun G hG => hG 0 _ _ _ _ _ ?_)
  refine clP h hd (by decide) (fun v M' o' q => ?_) (fun E M' o' q => ?_)
  · obtain ⟨hk, ho, r, hv, hR⟩ := q
    subst hv
    rw [ho]
    refine ⟨vp_in_nI (n := 0) (N := 1) (by decide) (by decide), ?_⟩
    refine hG 16 _ _ _ _ _ ?_
    exact ⟨⟨by rw [hk]; rfl, Or.inl ⟨hk, r, hR, rfl⟩⟩, Nat.le_refl _⟩
  · obtain ⟨q1, hR, ho⟩ := q
    rw [ho]
    rcases q1 with ⟨hk, hE⟩ | ⟨hk, hE⟩
    · subst hE
      exact ⟨10, 5, _, _, _, rfl, by decide, rfl, rfl, Nat.le_of_ble_eq_true rfl, hG 11 _ _ _ _ _ ⟨⟨by rw [hk]; rfl, Or.inr ⟨by rw [hk]; decide, hR, rfl⟩⟩, Nat.le_refl _⟩⟩
    · subst hE
      exact ⟨13, 5, _, _, _, rfl, by decide, rfl, rfl, Nat.le_of_ble_eq_true rfl, hG 14 _ _ _ _ _ ⟨⟨by rw [hk]; rfl, Or.inr ⟨by rw [hk]; decide, hR, rfl⟩⟩, Nat.le_refl _⟩⟩
theorem op_mount {l : Launch} (hl : l.stackTraces = false) (M : Mem) (o : Ou) {c : Nat} (hc : c ≤ 512) (p a i : Int32) (h : Inv c M) : OpV l 194 [.ref 0, .int p, .int a, .int i, .ref 63] 160 [.ref 11, .int p, .int a, .int i] c M o Int32.toInt64 := by
  have h' := h
  obtain ⟨n, t, e, m, dd, r, pl, rd, E, W, H, L, h1, h2, h3, h4, h5⟩ := h
  obtain ⟨a1, a2, a3, a4, a5, a6, a7, a8, a9, a10, a11⟩ := id h1
  obtain ⟨s1, s2, s3, s4, s5, s6, s7, s8, s9, s10, s11, s12, s13, s14, s15⟩ := id h4
  have hkk : kMo p a i n ≤ 2 := by unfold kMo; exact cond2 (cond2 (by decide) (by decide)) (by decide)
  have bp : ∀ k, k < m → pl k < 8000000 := fun k hk => by have := s8 k hk; omega
  have br : ∀ k, k < m → rd k ≤ 2 := fun k hk => s9 k (by omega)
  refine ⟨kMo p a i n, _, hkk, w_mountE hl M o p a i (by decide) (c_X7_mount hl M o p a i a3 a1 s2 s1 s5 s6 bp br), fun v M1 o1 q => ?_⟩
  obtain ⟨q1, q2⟩ := q
  refine ⟨q1, ?_⟩
  rcases q2 with ⟨hk, r1, ⟨hF, w, hw, hr1⟩, ho⟩ | ⟨hk, hM1, ho⟩
  · have fr : ∀ b, b ∉ PLS → M1 b = M b := hF
    have f11 : M1 11 = M 11 := hF _ (by decide)
    have hS1 : MSt M1 pl rd := ⟨fun k hk => by rw [hF 47 (by decide)]; exact s7.1 k hk, fun k hk => by rw [hF 48 (by decide)]; exact s7.2 k hk⟩
    have hown : M1 46 = M 20 := (hF _ (by decide)).trans s4.symm
    have hlt : M1 49 = M 23 := (hF _ (by decide)).trans s11.symm
    have htd : M1 11 31 = M 8 5 := (congrFun f11 _).trans (s14.trans s13.symm)
    refine ⟨_, c_X8_mount hl M1 o1 p a i (n := n) (m := m) (pl := pl) (rd := rd) ((congrFun f11 _).trans a5) a1 ((congrFun f11 _).trans s3) s1 (by rw [hown]; exact s5) hS1 bp br, fun v2 M2 o2 q => ?_⟩
    obtain ⟨w3, q⟩ := q
    rcases q with ⟨z, _, _⟩ | ⟨_, r2, hv2, hF2, w', hw', hr2⟩
    · exact absurd hk z
    · rw [hown, hlt, htd] at hw'
      rw [hown] at hr2
      unfold kMo at hk
      have hb := (cond0 (cond0 hk (by decide)).2 (by decide)).1
      simp only [Bool.and_eq_true] at hb
      obtain ⟨N, n1, n6, hN⟩ := wi16 hb.1
      have hcl : a.toNatClampNeg = N := by rw [hN, nI_clamp (by omega)]
      rw [hcl] at hw hw'
      have hww := cw_mw n1 hw hw'
      have hrr : r1 = r2 := by rw [hr1, hr2, hww]
      have g1 : ∀ b, b ∉ MRS → b ∉ PLS → M2 b = M b := fun b b1 b2 => by
        have hb11 : b ≠ 11 := fun z => b1 (by rw [z]; decide)
        rw [hF2.1 b b1, show thr M1 0 b = M1 b by simp [thr, mset, hb11]]
        exact hF b b2
      have g2 : ∀ q, q ≠ 0 → q ≠ 35 → q ≠ 38 → q ≠ 41 → M2 11 q = M 11 q := fun q z0 z1 z2 z3 => by
        rw [hF2.2 q z1 z2 z3, show thr M1 0 11 q = M1 11 q from pk_un z0, f11]
      refine ⟨r2, hv2, w3, ?_, ?_, fun _ => by rw [ho, hrr]; exact pk_uLs⟩
      · rw [hF2.2 0 (by decide) (by decide) (by decide)]
        have hk2 : kMo p a i n = 0 := hk
        rw [hk2]; exact mset_same _ _ _ _
      · refine ⟨n, t, e, m, dd, r, pl, rd, E, W, H, L, h1.agr (fun b hb => ?_) (fun q hq => ?_), h2.agr (fun b hb => ?_) ?_, h3.agr (fun b hb => ?_) (fun q hq => ?_), h4.up.agr (fun b hb => ?_) (fun q hq => ?_) ?_, h5.agr (fun b hb => ?_) (fun q hq1 hq2 => ?_)⟩
        · rcases hb with rfl | rfl | rfl | rfl | rfl | rfl | rfl <;> exact g1 _ (by decide) (by decide)
        · rcases hq with rfl | rfl <;> exact g2 _ (by decide) (by decide) (by decide) (by decide)
        · rcases hb with rfl | rfl | rfl <;> exact g1 _ (by decide) (by decide)
        · exact g2 _ (by decide) (by decide) (by decide) (by decide)
        · rcases hb with rfl | rfl | rfl | rfl | rfl | rfl | rfl | rfl | rfl | rfl | rfl | rfl | rfl | rfl | rfl | rfl <;> exact g1 _ (by decide) (by decide)
        · exact g2 q (by omega) (by omega) (by omega) (by omega)
        · rcases hb with rfl | rfl | rfl | rfl | rfl | rfl | rfl | rfl | rfl <;> exact g1 _ (by decide) (by decide)
        · exact g2 q (by omega) (by omega) (by omega) (by omega)
        · exact congrFun (g1 0 (by decide) (by decide)) 6
        · rcases hb with rfl | rfl | rfl | rfl | rfl | rfl | rfl | rfl | rfl | rfl | rfl <;> exact g1 _ (by decide) (by decide)
        · exact g2 q (by omega) (by omega) (by omega) (by omega)
  · have hM1 : M1 = M := hM1
    subst hM1
    refine ⟨_, c_X8_mount hl M1 o1 p a i (n := n) (m := m) (pl := pl) (rd := rd) a5 a1 s3 s1 (by rw [← s4]; exact s5) s7 bp br, fun v2 M2 o2 q => ?_⟩
    obtain ⟨w3, q⟩ := q
    rcases q with ⟨_, hv2, hM2⟩ | ⟨z, _⟩
    · rw [hM2]
      exact ⟨0, hv2, w3, mset_same _ _ _ _, inv_thr h', fun z => absurd z hk⟩
    · exact absurd z hk
