/-! THE LAW: its blocks (written by gen/law.py). -/
theorem lw_ix {L i j : Nat} (h : i + j < L) (h31 : L < 2 ^ 31) : vp_in (nI i + nI j) L ∧ (nI i + nI j).toNatClampNeg = i + j := by
  rw [nI_add]
  exact ⟨vp_in_nI h h31, nI_clamp (by omega)⟩
set_option maxRecDepth 16000 in
theorem blk_player {l : Launch} (hl : l.stackTraces = false) (M : Mem) (o : Ou) {L i c k : Nat} {xs : Nat → Int32} {G : GG} (hG : BodyL l 200 4096 L xs G) (hi : i + 5 < L) (h31 : L < 2 ^ 31) (hk : k + 8 ≤ 4096) (hc : c ≤ 512) (h : Inv c M) (x5 x6 : Option Value) (nx : ∀ M2 o2 y5 y6 k2, k2 ≤ k + 8 → Inv (c + 1) M2 → G 893 [some (.ref SCR), some (.ref 0), some (.ref 11), some (.ref OUT), some (.int (nI i)), y5, y6] [] M2 o2 k2) : G 26 [some (.ref SCR), some (.ref 0), some (.ref 11), some (.ref OUT), some (.int (nI i)), x5, x6] [] M o k := by
  have v1 : vp_in (nI i + 1) L ∧ (nI i + 1).toNatClampNeg = i + 1 := lw_ix (j := 1) (by omega) h31
  obtain ⟨k1, p1, hk1, hw, hp⟩ := op_player hl M o (xs (i + 1)) h
  refine hG 26 _ _ _ _ _ ?_
  refine ⟨v1.1, ?_⟩
  rw [v1.2]
  refine clP hw (by decide) hk (fun v M1 o1 q => ?_) (fun _ _ _ q => q.elim)
  obtain ⟨hv, p2, hm, hp2⟩ := hp v M1 o1 q
  subst hv
  refine ⟨v1.1, ?_⟩
  rw [v1.2]
  refine clP hm (by decide) hk (fun v2 M2 o2 q => ?_) (fun _ _ _ q => q.elim)
  obtain ⟨b, hv2, ho2, ht, hI, hout⟩ := hp2 v2 M2 o2 q
  subst hv2
  refine clI (c_X8_thrown hl M2 o2) (by decide) hk ⟨fun _ => ?_, fun z => absurd ht z⟩
  refine hG 49 _ _ _ _ _ ?_
  refine ⟨fun _ => ?_, fun z => ?_⟩
  · refine hG 60 _ _ _ _ _ ?_
    exact nx _ _ _ _ _ (Nat.le_refl _) hI
  · have hk0 : k1 = 0 := nI_inj (by omega) (by decide) z
    refine ⟨vp_in_nI (n := 0) (N := 1) (by decide) (by decide), fun _ => ?_, fun z2 => absurd ?_ z2⟩
    · refine hG 60 _ _ _ _ _ ?_
      exact nx _ _ _ _ _ (Nat.le_refl _) hI
    · rw [ho2]
      exact (lg_cmp_eq _ _).mpr (hout hk0)
set_option maxRecDepth 16000 in
theorem blk_rate {l : Launch} (hl : l.stackTraces = false) (M : Mem) (o : Ou) {L i c k : Nat} {xs : Nat → Int32} {G : GG} (hG : BodyL l 200 4096 L xs G) (hi : i + 5 < L) (h31 : L < 2 ^ 31) (hk : k + 8 ≤ 4096) (hc : c ≤ 512) (h : Inv c M) (x5 x6 : Option Value) (nx : ∀ M2 o2 y5 y6 k2, k2 ≤ k + 8 → Inv (c + 1) M2 → G 893 [some (.ref SCR), some (.ref 0), some (.ref 11), some (.ref OUT), some (.int (nI i)), y5, y6] [] M2 o2 k2) : G 61 [some (.ref SCR), some (.ref 0), some (.ref 11), some (.ref OUT), some (.int (nI i)), x5, x6] [] M o k := by
  have v1 : vp_in (nI i + 1) L ∧ (nI i + 1).toNatClampNeg = i + 1 := lw_ix (j := 1) (by omega) h31
  have v2 : vp_in (nI i + 2) L ∧ (nI i + 2).toNatClampNeg = i + 2 := lw_ix (j := 2) (by omega) h31
  obtain ⟨k1, p1, hk1, hw, hp⟩ := op_rate hl M o (xs (i + 1)) (xs (i + 2)) h
  refine hG 61 _ _ _ _ _ ?_
  refine ⟨v1.1, ?_⟩
  rw [v1.2]
  refine ⟨v2.1, ?_⟩
  rw [v2.2]
  refine clP hw (by decide) hk (fun v M1 o1 q => ?_) (fun _ _ _ q => q.elim)
  obtain ⟨hv, p2, hm, hp2⟩ := hp v M1 o1 q
  subst hv
  refine ⟨v1.1, ?_⟩
  rw [v1.2]
  refine ⟨v2.1, ?_⟩
  rw [v2.2]
  refine clP hm (by decide) hk (fun v2 M2 o2 q => ?_) (fun _ _ _ q => q.elim)
  obtain ⟨b, hv2, ho2, ht, hI, hout⟩ := hp2 v2 M2 o2 q
  subst hv2
  refine clI (c_X8_thrown hl M2 o2) (by decide) hk ⟨fun _ => ?_, fun z => absurd ht z⟩
  refine hG 94 _ _ _ _ _ ?_
  refine ⟨fun _ => ?_, fun z => ?_⟩
  · refine hG 105 _ _ _ _ _ ?_
    exact nx _ _ _ _ _ (Nat.le_refl _) hI
  · have hk0 : k1 = 0 := nI_inj (by omega) (by decide) z
    refine ⟨vp_in_nI (n := 0) (N := 1) (by decide) (by decide), fun _ => ?_, fun z2 => absurd ?_ z2⟩
    · refine hG 105 _ _ _ _ _ ?_
      exact nx _ _ _ _ _ (Nat.le_refl _) hI
    · rw [ho2]
      exact (lg_cmp_eq _ _).mpr (hout hk0)
set_option maxRecDepth 16000 in
theorem blk_team {l : Launch} (hl : l.stackTraces = false) (M : Mem) (o : Ou) {L i c k : Nat} {xs : Nat → Int32} {G : GG} (hG : BodyL l 200 4096 L xs G) (hi : i + 5 < L) (h31 : L < 2 ^ 31) (hk : k + 8 ≤ 4096) (hc : c ≤ 512) (h : Inv c M) (x5 x6 : Option Value) (nx : ∀ M2 o2 y5 y6 k2, k2 ≤ k + 8 → Inv (c + 1) M2 → G 893 [some (.ref SCR), some (.ref 0), some (.ref 11), some (.ref OUT), some (.int (nI i)), y5, y6] [] M2 o2 k2) : G 106 [some (.ref SCR), some (.ref 0), some (.ref 11), some (.ref OUT), some (.int (nI i)), x5, x6] [] M o k := by
  have v1 : vp_in (nI i + 1) L ∧ (nI i + 1).toNatClampNeg = i + 1 := lw_ix (j := 1) (by omega) h31
  have v2 : vp_in (nI i + 2) L ∧ (nI i + 2).toNatClampNeg = i + 2 := lw_ix (j := 2) (by omega) h31
  have v3 : vp_in (nI i + 3) L ∧ (nI i + 3).toNatClampNeg = i + 3 := lw_ix (j := 3) (by omega) h31
  have v4 : vp_in (nI i + 4) L ∧ (nI i + 4).toNatClampNeg = i + 4 := lw_ix (j := 4) (by omega) h31
  obtain ⟨k1, p1, hk1, hw, hp⟩ := op_team hl M o (xs (i + 1)) (xs (i + 2)) (xs (i + 3)) (xs (i + 4)) h
  refine hG 106 _ _ _ _ _ ?_
  refine ⟨v1.1, ?_⟩
  rw [v1.2]
  refine ⟨v2.1, ?_⟩
  rw [v2.2]
  refine ⟨v3.1, ?_⟩
  rw [v3.2]
  refine ⟨v4.1, ?_⟩
  rw [v4.2]
  refine clP hw (by decide) hk (fun v M1 o1 q => ?_) (fun _ _ _ q => q.elim)
  obtain ⟨hv, p2, hm, hp2⟩ := hp v M1 o1 q
  subst hv
  refine ⟨v1.1, ?_⟩
  rw [v1.2]
  refine ⟨v2.1, ?_⟩
  rw [v2.2]
  refine ⟨v3.1, ?_⟩
  rw [v3.2]
  refine ⟨v4.1, ?_⟩
  rw [v4.2]
  refine clP hm (by decide) hk (fun v2 M2 o2 q => ?_) (fun _ _ _ q => q.elim)
  obtain ⟨b, hv2, ho2, ht, hI, hout⟩ := hp2 v2 M2 o2 q
  subst hv2
  refine clI (c_X8_thrown hl M2 o2) (by decide) hk ⟨fun _ => ?_, fun z => absurd ht z⟩
  refine hG 159 _ _ _ _ _ ?_
  refine ⟨fun _ => ?_, fun z => ?_⟩
  · refine hG 170 _ _ _ _ _ ?_
    exact nx _ _ _ _ _ (Nat.le_refl _) hI
  · have hk0 : k1 = 0 := nI_inj (by omega) (by decide) z
    refine ⟨vp_in_nI (n := 0) (N := 1) (by decide) (by decide), fun _ => ?_, fun z2 => absurd ?_ z2⟩
    · refine hG 170 _ _ _ _ _ ?_
      exact nx _ _ _ _ _ (Nat.le_refl _) hI
    · rw [ho2]
      exact (lg_cmp_eq _ _).mpr (hout hk0)
set_option maxRecDepth 16000 in
theorem blk_strength {l : Launch} (hl : l.stackTraces = false) (M : Mem) (o : Ou) {L i c k : Nat} {xs : Nat → Int32} {G : GG} (hG : BodyL l 200 4096 L xs G) (hi : i + 5 < L) (h31 : L < 2 ^ 31) (hk : k + 8 ≤ 4096) (hc : c ≤ 512) (h : Inv c M) (x5 x6 : Option Value) (nx : ∀ M2 o2 y5 y6 k2, k2 ≤ k + 8 → Inv (c + 1) M2 → G 893 [some (.ref SCR), some (.ref 0), some (.ref 11), some (.ref OUT), some (.int (nI i)), y5, y6] [] M2 o2 k2) : G 171 [some (.ref SCR), some (.ref 0), some (.ref 11), some (.ref OUT), some (.int (nI i)), x5, x6] [] M o k := by
  have v1 : vp_in (nI i + 1) L ∧ (nI i + 1).toNatClampNeg = i + 1 := lw_ix (j := 1) (by omega) h31
  obtain ⟨k1, p1, hk1, hw, hp⟩ := op_strength hl M o (xs (i + 1)) h
  refine hG 171 _ _ _ _ _ ?_
  refine ⟨v1.1, ?_⟩
  rw [v1.2]
  refine clP hw (by decide) hk (fun v M1 o1 q => ?_) (fun _ _ _ q => q.elim)
  obtain ⟨hv, p2, hm, hp2⟩ := hp v M1 o1 q
  subst hv
  refine ⟨v1.1, ?_⟩
  rw [v1.2]
  refine clP hm (by decide) hk (fun v2 M2 o2 q => ?_) (fun _ _ _ q => q.elim)
  obtain ⟨b, hv2, ho2, ht, hI, hout⟩ := hp2 v2 M2 o2 q
  subst hv2
  refine clI (c_X8_thrown hl M2 o2) (by decide) hk ⟨fun _ => ?_, fun z => absurd ht z⟩
  refine hG 194 _ _ _ _ _ ?_
  refine ⟨fun _ => ?_, fun z => ?_⟩
  · refine hG 205 _ _ _ _ _ ?_
    exact nx _ _ _ _ _ (Nat.le_refl _) hI
  · have hk0 : k1 = 0 := nI_inj (by omega) (by decide) z
    refine ⟨vp_in_nI (n := 0) (N := 1) (by decide) (by decide), fun _ => ?_, fun z2 => absurd ?_ z2⟩
    · refine hG 205 _ _ _ _ _ ?_
      exact nx _ _ _ _ _ (Nat.le_refl _) hI
    · rw [ho2]
      exact (lg_cmp_eq _ _).mpr (hout hk0)
set_option maxRecDepth 16000 in
theorem blk_enter {l : Launch} (hl : l.stackTraces = false) (M : Mem) (o : Ou) {L i c k : Nat} {xs : Nat → Int32} {G : GG} (hG : BodyL l 200 4096 L xs G) (hi : i + 5 < L) (h31 : L < 2 ^ 31) (hk : k + 8 ≤ 4096) (hc : c ≤ 512) (h : Inv c M) (x5 x6 : Option Value) (nx : ∀ M2 o2 y5 y6 k2, k2 ≤ k + 8 → Inv (c + 1) M2 → G 893 [some (.ref SCR), some (.ref 0), some (.ref 11), some (.ref OUT), some (.int (nI i)), y5, y6] [] M2 o2 k2) : G 238 [some (.ref SCR), some (.ref 0), some (.ref 11), some (.ref OUT), some (.int (nI i)), x5, x6] [] M o k := by
  have v1 : vp_in (nI i + 1) L ∧ (nI i + 1).toNatClampNeg = i + 1 := lw_ix (j := 1) (by omega) h31
  obtain ⟨k1, p1, hk1, hw, hp⟩ := op_enter hl M o (xs (i + 1)) h
  refine hG 238 _ _ _ _ _ ?_
  refine ⟨v1.1, ?_⟩
  rw [v1.2]
  refine clP hw (by decide) hk (fun v M1 o1 q => ?_) (fun _ _ _ q => q.elim)
  obtain ⟨hv, p2, hm, hp2⟩ := hp v M1 o1 q
  subst hv
  refine ⟨v1.1, ?_⟩
  rw [v1.2]
  refine clP hm (by decide) hk (fun v2 M2 o2 q => ?_) (fun _ _ _ q => q.elim)
  obtain ⟨b, hv2, ho2, ht, hI, hout⟩ := hp2 v2 M2 o2 q
  subst hv2
  refine clI (c_X8_thrown hl M2 o2) (by decide) hk ⟨fun _ => ?_, fun z => absurd ht z⟩
  refine hG 261 _ _ _ _ _ ?_
  refine ⟨fun _ => ?_, fun z => ?_⟩
  · refine hG 272 _ _ _ _ _ ?_
    exact nx _ _ _ _ _ (Nat.le_refl _) hI
  · have hk0 : k1 = 0 := nI_inj (by omega) (by decide) z
    refine ⟨vp_in_nI (n := 0) (N := 1) (by decide) (by decide), fun _ => ?_, fun z2 => absurd ?_ z2⟩
    · refine hG 272 _ _ _ _ _ ?_
      exact nx _ _ _ _ _ (Nat.le_refl _) hI
    · rw [ho2]
      exact (lg_cmp_eq _ _).mpr (hout hk0)
set_option maxRecDepth 16000 in
theorem blk_draw {l : Launch} (hl : l.stackTraces = false) (M : Mem) (o : Ou) {L i c k : Nat} {xs : Nat → Int32} {G : GG} (hG : BodyL l 200 4096 L xs G) (hi : i + 5 < L) (h31 : L < 2 ^ 31) (hk : k + 8 ≤ 4096) (hc : c ≤ 512) (h : Inv c M) (x5 x6 : Option Value) (nx : ∀ M2 o2 y5 y6 k2, k2 ≤ k + 8 → Inv (c + 1) M2 → G 893 [some (.ref SCR), some (.ref 0), some (.ref 11), some (.ref OUT), some (.int (nI i)), y5, y6] [] M2 o2 k2) : G 290 [some (.ref SCR), some (.ref 0), some (.ref 11), some (.ref OUT), some (.int (nI i)), x5, x6] [] M o k := by
  obtain ⟨k1, p1, hk1, hw, hp⟩ := op_draw hl M o h
  refine hG 290 _ _ _ _ _ ?_
  refine clP hw (by decide) hk (fun v M1 o1 q => ?_) (fun _ _ _ q => q.elim)
  obtain ⟨hv, p2, hm, hp2⟩ := hp v M1 o1 q
  subst hv
  refine clP hm (by decide) hk (fun v2 M2 o2 q => ?_) (fun _ _ _ q => q.elim)
  obtain ⟨b, hv2, ho2, ht, hI, hout⟩ := hp2 v2 M2 o2 q
  subst hv2
  refine clI (c_X8_thrown hl M2 o2) (by decide) hk ⟨fun _ => ?_, fun z => absurd ht z⟩
  refine hG 303 _ _ _ _ _ ?_
  refine ⟨fun _ => ?_, fun z => ?_⟩
  · refine hG 314 _ _ _ _ _ ?_
    exact nx _ _ _ _ _ (Nat.le_refl _) hI
  · have hk0 : k1 = 0 := nI_inj (by omega) (by decide) z
    refine ⟨vp_in_nI (n := 0) (N := 1) (by decide) (by decide), fun _ => ?_, fun z2 => absurd ?_ z2⟩
    · refine hG 314 _ _ _ _ _ ?_
      exact nx _ _ _ _ _ (Nat.le_refl _) hI
    · rw [ho2]
      exact (lg_cmp_eq _ _).mpr (hout hk0)
set_option maxRecDepth 16000 in
theorem blk_next {l : Launch} (hl : l.stackTraces = false) (M : Mem) (o : Ou) {L i c k : Nat} {xs : Nat → Int32} {G : GG} (hG : BodyL l 200 4096 L xs G) (hi : i + 5 < L) (h31 : L < 2 ^ 31) (hk : k + 8 ≤ 4096) (hc : c ≤ 512) (h : Inv c M) (x5 x6 : Option Value) (nx : ∀ M2 o2 y5 y6 k2, k2 ≤ k + 8 → Inv (c + 1) M2 → G 893 [some (.ref SCR), some (.ref 0), some (.ref 11), some (.ref OUT), some (.int (nI i)), y5, y6] [] M2 o2 k2) : G 315 [some (.ref SCR), some (.ref 0), some (.ref 11), some (.ref OUT), some (.int (nI i)), x5, x6] [] M o k := by
  have v1 : vp_in (nI i + 1) L ∧ (nI i + 1).toNatClampNeg = i + 1 := lw_ix (j := 1) (by omega) h31
  obtain ⟨k1, p1, hk1, hw, hp⟩ := op_next hl M o (xs (i + 1)) h
  refine hG 315 _ _ _ _ _ ?_
  refine ⟨v1.1, ?_⟩
  rw [v1.2]
  refine clP hw (by decide) hk (fun v M1 o1 q => ?_) (fun _ _ _ q => q.elim)
  obtain ⟨hv, p2, hm, hp2⟩ := hp v M1 o1 q
  subst hv
  refine ⟨v1.1, ?_⟩
  rw [v1.2]
  refine clP hm (by decide) hk (fun v2 M2 o2 q => ?_) (fun _ _ _ q => q.elim)
  obtain ⟨b, hv2, ho2, ht, hI, hout⟩ := hp2 v2 M2 o2 q
  subst hv2
  refine clI (c_X8_thrown hl M2 o2) (by decide) hk ⟨fun _ => ?_, fun z => absurd ht z⟩
  refine hG 338 _ _ _ _ _ ?_
  refine ⟨fun _ => ?_, fun z => ?_⟩
  · refine hG 349 _ _ _ _ _ ?_
    exact nx _ _ _ _ _ (Nat.le_refl _) hI
  · have hk0 : k1 = 0 := nI_inj (by omega) (by decide) z
    refine ⟨vp_in_nI (n := 0) (N := 1) (by decide) (by decide), fun _ => ?_, fun z2 => absurd ?_ z2⟩
    · refine hG 349 _ _ _ _ _ ?_
      exact nx _ _ _ _ _ (Nat.le_refl _) hI
    · rw [ho2]
      exact (lg_cmp_eq _ _).mpr (hout hk0)
set_option maxRecDepth 16000 in
theorem blk_given {l : Launch} (hl : l.stackTraces = false) (M : Mem) (o : Ou) {L i c k : Nat} {xs : Nat → Int32} {G : GG} (hG : BodyL l 200 4096 L xs G) (hi : i + 5 < L) (h31 : L < 2 ^ 31) (hk : k + 8 ≤ 4096) (hc : c ≤ 512) (h : Inv c M) (x5 x6 : Option Value) (nx : ∀ M2 o2 y5 y6 k2, k2 ≤ k + 8 → Inv (c + 1) M2 → G 893 [some (.ref SCR), some (.ref 0), some (.ref 11), some (.ref OUT), some (.int (nI i)), y5, y6] [] M2 o2 k2) : G 350 [some (.ref SCR), some (.ref 0), some (.ref 11), some (.ref OUT), some (.int (nI i)), x5, x6] [] M o k := by
  have v1 : vp_in (nI i + 1) L ∧ (nI i + 1).toNatClampNeg = i + 1 := lw_ix (j := 1) (by omega) h31
  obtain ⟨k1, p1, hk1, hw, hp⟩ := op_given hl M o (xs (i + 1)) h
  refine hG 350 _ _ _ _ _ ?_
  refine ⟨v1.1, ?_⟩
  rw [v1.2]
  refine clP hw (by decide) hk (fun v M1 o1 q => ?_) (fun _ _ _ q => q.elim)
  obtain ⟨hv, p2, hm, hp2⟩ := hp v M1 o1 q
  subst hv
  refine ⟨v1.1, ?_⟩
  rw [v1.2]
  refine clP hm (by decide) hk (fun v2 M2 o2 q => ?_) (fun _ _ _ q => q.elim)
  obtain ⟨b, hv2, ho2, ht, hI, hout⟩ := hp2 v2 M2 o2 q
  subst hv2
  refine clI (c_X8_thrown hl M2 o2) (by decide) hk ⟨fun _ => ?_, fun z => absurd ht z⟩
  refine hG 373 _ _ _ _ _ ?_
  refine ⟨fun _ => ?_, fun z => ?_⟩
  · refine hG 384 _ _ _ _ _ ?_
    exact nx _ _ _ _ _ (Nat.le_refl _) hI
  · have hk0 : k1 = 0 := nI_inj (by omega) (by decide) z
    refine ⟨vp_in_nI (n := 0) (N := 1) (by decide) (by decide), fun _ => ?_, fun z2 => absurd ?_ z2⟩
    · refine hG 384 _ _ _ _ _ ?_
      exact nx _ _ _ _ _ (Nat.le_refl _) hI
    · rw [ho2]
      exact (lg_cmp_eq _ _).mpr (hout hk0)
set_option maxRecDepth 16000 in
theorem blk_play {l : Launch} (hl : l.stackTraces = false) (M : Mem) (o : Ou) {L i c k : Nat} {xs : Nat → Int32} {G : GG} (hG : BodyL l 200 4096 L xs G) (hi : i + 5 < L) (h31 : L < 2 ^ 31) (hk : k + 8 ≤ 4096) (hc : c ≤ 512) (h : Inv c M) (x5 x6 : Option Value) (nx : ∀ M2 o2 y5 y6 k2, k2 ≤ k + 8 → Inv (c + 1) M2 → G 893 [some (.ref SCR), some (.ref 0), some (.ref 11), some (.ref OUT), some (.int (nI i)), y5, y6] [] M2 o2 k2) : G 385 [some (.ref SCR), some (.ref 0), some (.ref 11), some (.ref OUT), some (.int (nI i)), x5, x6] [] M o k := by
  have v1 : vp_in (nI i + 1) L ∧ (nI i + 1).toNatClampNeg = i + 1 := lw_ix (j := 1) (by omega) h31
  have v2 : vp_in (nI i + 2) L ∧ (nI i + 2).toNatClampNeg = i + 2 := lw_ix (j := 2) (by omega) h31
  obtain ⟨k1, p1, hk1, hw, hp⟩ := op_play hl M o hc (xs (i + 1)) (xs (i + 2)) h
  refine hG 385 _ _ _ _ _ ?_
  refine ⟨v1.1, ?_⟩
  rw [v1.2]
  refine ⟨v2.1, ?_⟩
  rw [v2.2]
  refine clP hw (by decide) hk (fun v M1 o1 q => ?_) (fun _ _ _ q => q.elim)
  obtain ⟨hv, p2, hm, hp2⟩ := hp v M1 o1 q
  subst hv
  refine ⟨v1.1, ?_⟩
  rw [v1.2]
  refine ⟨v2.1, ?_⟩
  rw [v2.2]
  refine clP hm (by decide) hk (fun v2 M2 o2 q => ?_) (fun _ _ _ q => q.elim)
  obtain ⟨b, hv2, ho2, ht, hI, hout⟩ := hp2 v2 M2 o2 q
  subst hv2
  refine clI (c_X8_thrown hl M2 o2) (by decide) hk ⟨fun _ => ?_, fun z => absurd ht z⟩
  refine hG 418 _ _ _ _ _ ?_
  refine ⟨fun _ => ?_, fun z => ?_⟩
  · refine hG 429 _ _ _ _ _ ?_
    exact nx _ _ _ _ _ (Nat.le_refl _) hI
  · have hk0 : k1 = 0 := nI_inj (by omega) (by decide) z
    refine ⟨vp_in_nI (n := 0) (N := 1) (by decide) (by decide), fun _ => ?_, fun z2 => absurd ?_ z2⟩
    · refine hG 429 _ _ _ _ _ ?_
      exact nx _ _ _ _ _ (Nat.le_refl _) hI
    · rw [ho2]
      exact (lg_cmp_eq _ _).mpr (hout hk0)
set_option maxRecDepth 16000 in
theorem blk_where {l : Launch} (hl : l.stackTraces = false) (M : Mem) (o : Ou) {L i c k : Nat} {xs : Nat → Int32} {G : GG} (hG : BodyL l 200 4096 L xs G) (hi : i + 5 < L) (h31 : L < 2 ^ 31) (hk : k + 8 ≤ 4096) (hc : c ≤ 512) (h : Inv c M) (x5 x6 : Option Value) (nx : ∀ M2 o2 y5 y6 k2, k2 ≤ k + 8 → Inv (c + 1) M2 → G 893 [some (.ref SCR), some (.ref 0), some (.ref 11), some (.ref OUT), some (.int (nI i)), y5, y6] [] M2 o2 k2) : G 430 [some (.ref SCR), some (.ref 0), some (.ref 11), some (.ref OUT), some (.int (nI i)), x5, x6] [] M o k := by
  have v1 : vp_in (nI i + 1) L ∧ (nI i + 1).toNatClampNeg = i + 1 := lw_ix (j := 1) (by omega) h31
  obtain ⟨k1, p1, hk1, hw, hp⟩ := op_where hl M o (xs (i + 1)) h
  refine hG 430 _ _ _ _ _ ?_
  refine ⟨v1.1, ?_⟩
  rw [v1.2]
  refine clP hw (by decide) hk (fun v M1 o1 q => ?_) (fun _ _ _ q => q.elim)
  obtain ⟨hv, p2, hm, hp2⟩ := hp v M1 o1 q
  subst hv
  refine ⟨v1.1, ?_⟩
  rw [v1.2]
  refine clP hm (by decide) hk (fun v2 M2 o2 q => ?_) (fun _ _ _ q => q.elim)
  obtain ⟨b, hv2, ho2, ht, hI, hout⟩ := hp2 v2 M2 o2 q
  subst hv2
  refine clI (c_X8_thrown hl M2 o2) (by decide) hk ⟨fun _ => ?_, fun z => absurd ht z⟩
  refine hG 453 _ _ _ _ _ ?_
  refine ⟨fun _ => ?_, fun z => ?_⟩
  · refine hG 464 _ _ _ _ _ ?_
    exact nx _ _ _ _ _ (Nat.le_refl _) hI
  · have hk0 : k1 = 0 := nI_inj (by omega) (by decide) z
    refine ⟨vp_in_nI (n := 0) (N := 1) (by decide) (by decide), fun _ => ?_, fun z2 => absurd ?_ z2⟩
    · refine hG 464 _ _ _ _ _ ?_
      exact nx _ _ _ _ _ (Nat.le_refl _) hI
    · rw [ho2]
      exact (lg_cmp_eq _ _).mpr (hout hk0)
set_option maxRecDepth 16000 in
theorem blk_row {l : Launch} (hl : l.stackTraces = false) (M : Mem) (o : Ou) {L i c k : Nat} {xs : Nat → Int32} {G : GG} (hG : BodyL l 200 4096 L xs G) (hi : i + 5 < L) (h31 : L < 2 ^ 31) (hk : k + 8 ≤ 4096) (hc : c ≤ 512) (h : Inv c M) (x5 x6 : Option Value) (nx : ∀ M2 o2 y5 y6 k2, k2 ≤ k + 8 → Inv (c + 1) M2 → G 893 [some (.ref SCR), some (.ref 0), some (.ref 11), some (.ref OUT), some (.int (nI i)), y5, y6] [] M2 o2 k2) : G 465 [some (.ref SCR), some (.ref 0), some (.ref 11), some (.ref OUT), some (.int (nI i)), x5, x6] [] M o k := by
  have v1 : vp_in (nI i + 1) L ∧ (nI i + 1).toNatClampNeg = i + 1 := lw_ix (j := 1) (by omega) h31
  have v2 : vp_in (nI i + 2) L ∧ (nI i + 2).toNatClampNeg = i + 2 := lw_ix (j := 2) (by omega) h31
  obtain ⟨k1, p1, hk1, hw, hp⟩ := op_row hl M o (xs (i + 1)) (xs (i + 2)) h
  refine hG 465 _ _ _ _ _ ?_
  refine ⟨v1.1, ?_⟩
  rw [v1.2]
  refine ⟨v2.1, ?_⟩
  rw [v2.2]
  refine clP hw (by decide) hk (fun v M1 o1 q => ?_) (fun _ _ _ q => q.elim)
  obtain ⟨hv, p2, hm, hp2⟩ := hp v M1 o1 q
  subst hv
  refine ⟨v1.1, ?_⟩
  rw [v1.2]
  refine ⟨v2.1, ?_⟩
  rw [v2.2]
  refine clP hm (by decide) hk (fun v2 M2 o2 q => ?_) (fun _ _ _ q => q.elim)
  obtain ⟨b, hv2, ho2, ht, hI, hout⟩ := hp2 v2 M2 o2 q
  subst hv2
  refine clI (c_X8_thrown hl M2 o2) (by decide) hk ⟨fun _ => ?_, fun z => absurd ht z⟩
  refine hG 498 _ _ _ _ _ ?_
  refine ⟨fun _ => ?_, fun z => ?_⟩
  · refine hG 509 _ _ _ _ _ ?_
    exact nx _ _ _ _ _ (Nat.le_refl _) hI
  · have hk0 : k1 = 0 := nI_inj (by omega) (by decide) z
    refine ⟨vp_in_nI (n := 0) (N := 1) (by decide) (by decide), fun _ => ?_, fun z2 => absurd ?_ z2⟩
    · refine hG 509 _ _ _ _ _ ?_
      exact nx _ _ _ _ _ (Nat.le_refl _) hI
    · rw [ho2]
      exact (lg_cmp_eq _ _).mpr (hout hk0)
set_option maxRecDepth 16000 in
theorem blk_pony {l : Launch} (hl : l.stackTraces = false) (M : Mem) (o : Ou) {L i c k : Nat} {xs : Nat → Int32} {G : GG} (hG : BodyL l 200 4096 L xs G) (hi : i + 5 < L) (h31 : L < 2 ^ 31) (hk : k + 8 ≤ 4096) (hc : c ≤ 512) (h : Inv c M) (x5 x6 : Option Value) (nx : ∀ M2 o2 y5 y6 k2, k2 ≤ k + 8 → Inv (c + 1) M2 → G 893 [some (.ref SCR), some (.ref 0), some (.ref 11), some (.ref OUT), some (.int (nI i)), y5, y6] [] M2 o2 k2) : G 510 [some (.ref SCR), some (.ref 0), some (.ref 11), some (.ref OUT), some (.int (nI i)), x5, x6] [] M o k := by
  have v1 : vp_in (nI i + 1) L ∧ (nI i + 1).toNatClampNeg = i + 1 := lw_ix (j := 1) (by omega) h31
  obtain ⟨k1, p1, hk1, hw, hp⟩ := op_pony hl M o (xs (i + 1)) h
  refine hG 510 _ _ _ _ _ ?_
  refine ⟨v1.1, ?_⟩
  rw [v1.2]
  refine clP hw (by decide) hk (fun v M1 o1 q => ?_) (fun _ _ _ q => q.elim)
  obtain ⟨hv, p2, hm, hp2⟩ := hp v M1 o1 q
  subst hv
  refine ⟨v1.1, ?_⟩
  rw [v1.2]
  refine clP hm (by decide) hk (fun v2 M2 o2 q => ?_) (fun _ _ _ q => q.elim)
  obtain ⟨b, hv2, ho2, ht, hI, hout⟩ := hp2 v2 M2 o2 q
  subst hv2
  refine clI (c_X8_thrown hl M2 o2) (by decide) hk ⟨fun _ => ?_, fun z => absurd ht z⟩
  refine hG 533 _ _ _ _ _ ?_
  refine ⟨fun _ => ?_, fun z => ?_⟩
  · refine hG 544 _ _ _ _ _ ?_
    exact nx _ _ _ _ _ (Nat.le_refl _) hI
  · have hk0 : k1 = 0 := nI_inj (by omega) (by decide) z
    refine ⟨vp_in_nI (n := 0) (N := 1) (by decide) (by decide), fun _ => ?_, fun z2 => absurd ?_ z2⟩
    · refine hG 544 _ _ _ _ _ ?_
      exact nx _ _ _ _ _ (Nat.le_refl _) hI
    · rw [ho2]
      exact (lg_cmp_eq _ _).mpr (hout hk0)
set_option maxRecDepth 16000 in
theorem blk_lame {l : Launch} (hl : l.stackTraces = false) (M : Mem) (o : Ou) {L i c k : Nat} {xs : Nat → Int32} {G : GG} (hG : BodyL l 200 4096 L xs G) (hi : i + 5 < L) (h31 : L < 2 ^ 31) (hk : k + 8 ≤ 4096) (hc : c ≤ 512) (h : Inv c M) (x5 x6 : Option Value) (nx : ∀ M2 o2 y5 y6 k2, k2 ≤ k + 8 → Inv (c + 1) M2 → G 893 [some (.ref SCR), some (.ref 0), some (.ref 11), some (.ref OUT), some (.int (nI i)), y5, y6] [] M2 o2 k2) : G 545 [some (.ref SCR), some (.ref 0), some (.ref 11), some (.ref OUT), some (.int (nI i)), x5, x6] [] M o k := by
  have v1 : vp_in (nI i + 1) L ∧ (nI i + 1).toNatClampNeg = i + 1 := lw_ix (j := 1) (by omega) h31
  have v2 : vp_in (nI i + 2) L ∧ (nI i + 2).toNatClampNeg = i + 2 := lw_ix (j := 2) (by omega) h31
  obtain ⟨k1, p1, hk1, hw, hp⟩ := op_lame hl M o (xs (i + 1)) (xs (i + 2)) h
  refine hG 545 _ _ _ _ _ ?_
  refine ⟨v1.1, ?_⟩
  rw [v1.2]
  refine ⟨v2.1, ?_⟩
  rw [v2.2]
  refine clP hw (by decide) hk (fun v M1 o1 q => ?_) (fun _ _ _ q => q.elim)
  obtain ⟨hv, p2, hm, hp2⟩ := hp v M1 o1 q
  subst hv
  refine ⟨v1.1, ?_⟩
  rw [v1.2]
  refine ⟨v2.1, ?_⟩
  rw [v2.2]
  refine clP hm (by decide) hk (fun v2 M2 o2 q => ?_) (fun _ _ _ q => q.elim)
  obtain ⟨b, hv2, ho2, ht, hI, hout⟩ := hp2 v2 M2 o2 q
  subst hv2
  refine clI (c_X8_thrown hl M2 o2) (by decide) hk ⟨fun _ => ?_, fun z => absurd ht z⟩
  refine hG 578 _ _ _ _ _ ?_
  refine ⟨fun _ => ?_, fun z => ?_⟩
  · refine hG 592 _ _ _ _ _ ?_
    exact nx _ _ _ _ _ (Nat.le_refl _) hI
  · have hk0 : k1 = 0 := nI_inj (by omega) (by decide) z
    have hout : o1 0 = (if b = 0 then 0 else 1) := hout hk0
    refine ⟨vp_in_nI (n := 0) (N := 1) (by decide) (by decide), fun hb => ?_, fun hb => ?_⟩
    · rw [if_pos hb] at hout
      refine hG 587 _ _ _ _ _ ?_
      refine ⟨fun _ => ?_, fun z2 => absurd ?_ z2⟩
      · refine hG 592 _ _ _ _ _ ?_
        exact nx _ _ _ _ _ (Nat.le_refl _) hI
      · rw [ho2]
        exact (lg_cmp_eq _ _).mpr hout
    · rw [if_neg hb] at hout
      refine hG 588 _ _ _ _ _ ?_
      refine ⟨fun _ => ?_, fun z2 => absurd ?_ z2⟩
      · refine hG 592 _ _ _ _ _ ?_
        exact nx _ _ _ _ _ (Nat.le_refl _) hI
      · rw [ho2]
        exact (lg_cmp_eq _ _).mpr hout
set_option maxRecDepth 16000 in
theorem blk_told {l : Launch} (hl : l.stackTraces = false) (M : Mem) (o : Ou) {L i c k : Nat} {xs : Nat → Int32} {G : GG} (hG : BodyL l 200 4096 L xs G) (hi : i + 5 < L) (h31 : L < 2 ^ 31) (hk : k + 8 ≤ 4096) (hc : c ≤ 512) (h : Inv c M) (x5 x6 : Option Value) (nx : ∀ M2 o2 y5 y6 k2, k2 ≤ k + 8 → Inv (c + 1) M2 → G 893 [some (.ref SCR), some (.ref 0), some (.ref 11), some (.ref OUT), some (.int (nI i)), y5, y6] [] M2 o2 k2) : G 593 [some (.ref SCR), some (.ref 0), some (.ref 11), some (.ref OUT), some (.int (nI i)), x5, x6] [] M o k := by
  have v1 : vp_in (nI i + 1) L ∧ (nI i + 1).toNatClampNeg = i + 1 := lw_ix (j := 1) (by omega) h31
  have v2 : vp_in (nI i + 2) L ∧ (nI i + 2).toNatClampNeg = i + 2 := lw_ix (j := 2) (by omega) h31
  obtain ⟨k1, p1, hk1, hw, hp⟩ := op_told hl M o (xs (i + 1)) (xs (i + 2)) h
  refine hG 593 _ _ _ _ _ ?_
  refine ⟨v1.1, ?_⟩
  rw [v1.2]
  refine ⟨v2.1, ?_⟩
  rw [v2.2]
  refine clP hw (by decide) hk (fun v M1 o1 q => ?_) (fun _ _ _ q => q.elim)
  obtain ⟨hv, p2, hm, hp2⟩ := hp v M1 o1 q
  subst hv
  refine ⟨v1.1, ?_⟩
  rw [v1.2]
  refine ⟨v2.1, ?_⟩
  rw [v2.2]
  refine clP hm (by decide) hk (fun v2 M2 o2 q => ?_) (fun _ _ _ q => q.elim)
  obtain ⟨b, hv2, ho2, ht, hI, hout⟩ := hp2 v2 M2 o2 q
  subst hv2
  refine clI (c_X8_thrown hl M2 o2) (by decide) hk ⟨fun _ => ?_, fun z => absurd ht z⟩
  refine hG 626 _ _ _ _ _ ?_
  refine ⟨fun _ => ?_, fun z => ?_⟩
  · refine hG 637 _ _ _ _ _ ?_
    exact nx _ _ _ _ _ (Nat.le_refl _) hI
  · have hk0 : k1 = 0 := nI_inj (by omega) (by decide) z
    refine ⟨vp_in_nI (n := 0) (N := 1) (by decide) (by decide), fun _ => ?_, fun z2 => absurd ?_ z2⟩
    · refine hG 637 _ _ _ _ _ ?_
      exact nx _ _ _ _ _ (Nat.le_refl _) hI
    · rw [ho2]
      exact (lg_cmp_eq _ _).mpr (hout hk0)
set_option maxRecDepth 16000 in
theorem blk_mount {l : Launch} (hl : l.stackTraces = false) (M : Mem) (o : Ou) {L i c k : Nat} {xs : Nat → Int32} {G : GG} (hG : BodyL l 200 4096 L xs G) (hi : i + 5 < L) (h31 : L < 2 ^ 31) (hk : k + 8 ≤ 4096) (hc : c ≤ 512) (h : Inv c M) (x5 x6 : Option Value) (nx : ∀ M2 o2 y5 y6 k2, k2 ≤ k + 8 → Inv (c + 1) M2 → G 893 [some (.ref SCR), some (.ref 0), some (.ref 11), some (.ref OUT), some (.int (nI i)), y5, y6] [] M2 o2 k2) : G 638 [some (.ref SCR), some (.ref 0), some (.ref 11), some (.ref OUT), some (.int (nI i)), x5, x6] [] M o k := by
  have v1 : vp_in (nI i + 1) L ∧ (nI i + 1).toNatClampNeg = i + 1 := lw_ix (j := 1) (by omega) h31
  have v2 : vp_in (nI i + 2) L ∧ (nI i + 2).toNatClampNeg = i + 2 := lw_ix (j := 2) (by omega) h31
  have v3 : vp_in (nI i + 3) L ∧ (nI i + 3).toNatClampNeg = i + 3 := lw_ix (j := 3) (by omega) h31
  obtain ⟨k1, p1, hk1, hw, hp⟩ := op_mount hl M o hc (xs (i + 1)) (xs (i + 2)) (xs (i + 3)) h
  refine hG 638 _ _ _ _ _ ?_
  refine ⟨v1.1, ?_⟩
  rw [v1.2]
  refine ⟨v2.1, ?_⟩
  rw [v2.2]
  refine ⟨v3.1, ?_⟩
  rw [v3.2]
  refine clP hw (by decide) hk (fun v M1 o1 q => ?_) (fun _ _ _ q => q.elim)
  obtain ⟨hv, p2, hm, hp2⟩ := hp v M1 o1 q
  subst hv
  refine ⟨v1.1, ?_⟩
  rw [v1.2]
  refine ⟨v2.1, ?_⟩
  rw [v2.2]
  refine ⟨v3.1, ?_⟩
  rw [v3.2]
  refine clP hm (by decide) hk (fun v2 M2 o2 q => ?_) (fun _ _ _ q => q.elim)
  obtain ⟨b, hv2, ho2, ht, hI, hout⟩ := hp2 v2 M2 o2 q
  subst hv2
  refine clI (c_X8_thrown hl M2 o2) (by decide) hk ⟨fun _ => ?_, fun z => absurd ht z⟩
  refine hG 681 _ _ _ _ _ ?_
  refine ⟨fun _ => ?_, fun z => ?_⟩
  · refine hG 692 _ _ _ _ _ ?_
    exact nx _ _ _ _ _ (Nat.le_refl _) hI
  · have hk0 : k1 = 0 := nI_inj (by omega) (by decide) z
    refine ⟨vp_in_nI (n := 0) (N := 1) (by decide) (by decide), fun _ => ?_, fun z2 => absurd ?_ z2⟩
    · refine hG 692 _ _ _ _ _ ?_
      exact nx _ _ _ _ _ (Nat.le_refl _) hI
    · rw [ho2]
      exact (lg_cmp_eq _ _).mpr (hout hk0)
set_option maxRecDepth 16000 in
theorem blk_rest {l : Launch} (hl : l.stackTraces = false) (M : Mem) (o : Ou) {L i c k : Nat} {xs : Nat → Int32} {G : GG} (hG : BodyL l 200 4096 L xs G) (hi : i + 5 < L) (h31 : L < 2 ^ 31) (hk : k + 8 ≤ 4096) (hc : c ≤ 512) (h : Inv c M) (x5 x6 : Option Value) (nx : ∀ M2 o2 y5 y6 k2, k2 ≤ k + 8 → Inv (c + 1) M2 → G 893 [some (.ref SCR), some (.ref 0), some (.ref 11), some (.ref OUT), some (.int (nI i)), y5, y6] [] M2 o2 k2) : G 700 [some (.ref SCR), some (.ref 0), some (.ref 11), some (.ref OUT), some (.int (nI i)), x5, x6] [] M o k := by
  obtain ⟨k1, p1, hk1, hw, hp⟩ := op_rest hl M o h
  refine hG 700 _ _ _ _ _ ?_
  refine clP hw (by decide) hk (fun v M1 o1 q => ?_) (fun _ _ _ q => q.elim)
  obtain ⟨hv, p2, hm, hp2⟩ := hp v M1 o1 q
  subst hv
  refine clP hm (by decide) hk (fun v2 M2 o2 q => ?_) (fun _ _ _ q => q.elim)
  obtain ⟨b, hv2, ho2, ht, hI, hout⟩ := hp2 v2 M2 o2 q
  subst hv2
  refine clI (c_X8_thrown hl M2 o2) (by decide) hk ⟨fun _ => ?_, fun z => absurd ht z⟩
  refine hG 713 _ _ _ _ _ ?_
  refine ⟨fun _ => ?_, fun z => ?_⟩
  · refine hG 724 _ _ _ _ _ ?_
    exact nx _ _ _ _ _ (Nat.le_refl _) hI
  · have hk0 : k1 = 0 := nI_inj (by omega) (by decide) z
    refine ⟨vp_in_nI (n := 0) (N := 1) (by decide) (by decide), fun _ => ?_, fun z2 => absurd ?_ z2⟩
    · refine hG 724 _ _ _ _ _ ?_
      exact nx _ _ _ _ _ (Nat.le_refl _) hI
    · rw [ho2]
      exact (lg_cmp_eq _ _).mpr (hout hk0)
set_option maxRecDepth 16000 in
theorem blk_rider {l : Launch} (hl : l.stackTraces = false) (M : Mem) (o : Ou) {L i c k : Nat} {xs : Nat → Int32} {G : GG} (hG : BodyL l 200 4096 L xs G) (hi : i + 5 < L) (h31 : L < 2 ^ 31) (hk : k + 8 ≤ 4096) (hc : c ≤ 512) (h : Inv c M) (x5 x6 : Option Value) (nx : ∀ M2 o2 y5 y6 k2, k2 ≤ k + 8 → Inv (c + 1) M2 → G 893 [some (.ref SCR), some (.ref 0), some (.ref 11), some (.ref OUT), some (.int (nI i)), y5, y6] [] M2 o2 k2) : G 777 [some (.ref SCR), some (.ref 0), some (.ref 11), some (.ref OUT), some (.int (nI i)), x5, x6] [] M o k := by
  have v1 : vp_in (nI i + 1) L ∧ (nI i + 1).toNatClampNeg = i + 1 := lw_ix (j := 1) (by omega) h31
  have v2 : vp_in (nI i + 2) L ∧ (nI i + 2).toNatClampNeg = i + 2 := lw_ix (j := 2) (by omega) h31
  have v3 : vp_in (nI i + 3) L ∧ (nI i + 3).toNatClampNeg = i + 3 := lw_ix (j := 3) (by omega) h31
  have v4 : vp_in (nI i + 4) L ∧ (nI i + 4).toNatClampNeg = i + 4 := lw_ix (j := 4) (by omega) h31
  have v5 : vp_in (nI i + 5) L ∧ (nI i + 5).toNatClampNeg = i + 5 := lw_ix (j := 5) (by omega) h31
  obtain ⟨k1, p1, hk1, hw, hp⟩ := op_rider hl M o (xs (i + 1)) (xs (i + 2)) (xs (i + 3)) (xs (i + 4)) (xs (i + 5)) h
  refine hG 777 _ _ _ _ _ ?_
  refine ⟨v1.1, ?_⟩
  rw [v1.2]
  refine ⟨v2.1, ?_⟩
  rw [v2.2]
  refine ⟨v3.1, ?_⟩
  rw [v3.2]
  refine ⟨v4.1, ?_⟩
  rw [v4.2]
  refine ⟨v5.1, ?_⟩
  rw [v5.2]
  refine clP hw (by decide) hk (fun v M1 o1 q => ?_) (fun _ _ _ q => q.elim)
  obtain ⟨hv, p2, hm, hp2⟩ := hp v M1 o1 q
  subst hv
  refine ⟨v1.1, ?_⟩
  rw [v1.2]
  refine ⟨v2.1, ?_⟩
  rw [v2.2]
  refine ⟨v3.1, ?_⟩
  rw [v3.2]
  refine ⟨v4.1, ?_⟩
  rw [v4.2]
  refine ⟨v5.1, ?_⟩
  rw [v5.2]
  refine clP hm (by decide) hk (fun v2 M2 o2 q => ?_) (fun _ _ _ q => q.elim)
  obtain ⟨b, hv2, ho2, ht, hI, hout⟩ := hp2 v2 M2 o2 q
  subst hv2
  refine clI (c_X8_thrown hl M2 o2) (by decide) hk ⟨fun _ => ?_, fun z => absurd ht z⟩
  refine hG 840 _ _ _ _ _ ?_
  refine ⟨fun _ => ?_, fun z => ?_⟩
  · refine hG 851 _ _ _ _ _ ?_
    exact nx _ _ _ _ _ (Nat.le_refl _) hI
  · have hk0 : k1 = 0 := nI_inj (by omega) (by decide) z
    refine ⟨vp_in_nI (n := 0) (N := 1) (by decide) (by decide), fun _ => ?_, fun z2 => absurd ?_ z2⟩
    · refine hG 851 _ _ _ _ _ ?_
      exact nx _ _ _ _ _ (Nat.le_refl _) hI
    · rw [ho2]
      exact (lg_cmp_eq _ _).mpr (hout hk0)
set_option maxRecDepth 16000 in
theorem blk_cup {l : Launch} (hl : l.stackTraces = false) (M : Mem) (o : Ou) {L i c k : Nat} {xs : Nat → Int32} {G : GG} (hG : BodyL l 200 4096 L xs G) (hi : i + 5 < L) (h31 : L < 2 ^ 31) (hk : k + 8 ≤ 4096) (hc : c ≤ 512) (h : Inv c M) (x5 x6 : Option Value) (nx : ∀ M2 o2 y5 y6 k2, k2 ≤ k + 8 → Inv (c + 1) M2 → G 893 [some (.ref SCR), some (.ref 0), some (.ref 11), some (.ref OUT), some (.int (nI i)), y5, y6] [] M2 o2 k2) : G 206 [some (.ref SCR), some (.ref 0), some (.ref 11), some (.ref OUT), some (.int (nI i)), x5, x6] [] M o k := by
  have v1 : vp_in (nI i + 1) L ∧ (nI i + 1).toNatClampNeg = i + 1 := lw_ix (j := 1) (by omega) h31
  have v2 : vp_in (nI i + 2) L ∧ (nI i + 2).toNatClampNeg = i + 2 := lw_ix (j := 2) (by omega) h31
  obtain ⟨k1, p1, hk1, hw, hp⟩ := op_cup hl M o (xs (i + 1)) (xs (i + 2)) h
  refine hG 206 _ _ _ _ _ ?_
  refine ⟨v1.1, ?_⟩
  rw [v1.2]
  refine ⟨v2.1, ?_⟩
  rw [v2.2]
  refine clP hw (by decide) hk (fun v M1 o1 q => ?_) (fun _ _ _ q => q.elim)
  obtain ⟨hv, p2, hm, hp2⟩ := hp v M1 o1 q
  subst hv
  refine ⟨v1.1, ?_⟩
  rw [v1.2]
  refine ⟨v2.1, ?_⟩
  rw [v2.2]
  refine clP hm (by decide) hk (fun v2 M2 o2 q => ?_) (fun _ _ _ q => q.elim)
  obtain ⟨hv2, ho2, ht, hI⟩ := hp2 v2 M2 o2 q
  subst hv2
  refine clI (c_X8_thrown hl M2 o2) (by decide) hk ⟨fun _ => ?_, fun z => absurd ht z⟩
  refine hG 237 _ _ _ _ _ ?_
  exact nx _ _ _ _ _ (Nat.le_refl _) hI
set_option maxRecDepth 16000 in
theorem blk_ball {l : Launch} (hl : l.stackTraces = false) (M : Mem) (o : Ou) {L i c k : Nat} {xs : Nat → Int32} {G : GG} (hG : BodyL l 200 4096 L xs G) (hi : i + 5 < L) (h31 : L < 2 ^ 31) (hk : k + 8 ≤ 4096) (hc : c ≤ 512) (h : Inv c M) (x5 x6 : Option Value) (nx : ∀ M2 o2 y5 y6 k2, k2 ≤ k + 8 → Inv (c + 1) M2 → G 893 [some (.ref SCR), some (.ref 0), some (.ref 11), some (.ref OUT), some (.int (nI i)), y5, y6] [] M2 o2 k2) : G 725 [some (.ref SCR), some (.ref 0), some (.ref 11), some (.ref OUT), some (.int (nI i)), x5, x6] [] M o k := by
  have v1 : vp_in (nI i + 1) L ∧ (nI i + 1).toNatClampNeg = i + 1 := lw_ix (j := 1) (by omega) h31
  have v2 : vp_in (nI i + 2) L ∧ (nI i + 2).toNatClampNeg = i + 2 := lw_ix (j := 2) (by omega) h31
  have v3 : vp_in (nI i + 3) L ∧ (nI i + 3).toNatClampNeg = i + 3 := lw_ix (j := 3) (by omega) h31
  have v4 : vp_in (nI i + 4) L ∧ (nI i + 4).toNatClampNeg = i + 4 := lw_ix (j := 4) (by omega) h31
  obtain ⟨k1, p1, hk1, hw, hp⟩ := op_ball hl M o (xs (i + 1)) (xs (i + 2)) (xs (i + 3)) (xs (i + 4)) h
  refine hG 725 _ _ _ _ _ ?_
  refine ⟨v1.1, ?_⟩
  rw [v1.2]
  refine ⟨v2.1, ?_⟩
  rw [v2.2]
  refine ⟨v3.1, ?_⟩
  rw [v3.2]
  refine ⟨v4.1, ?_⟩
  rw [v4.2]
  refine clP hw (by decide) hk (fun v M1 o1 q => ?_) (fun _ _ _ q => q.elim)
  obtain ⟨hv, p2, hm, hp2⟩ := hp v M1 o1 q
  subst hv
  refine ⟨v1.1, ?_⟩
  rw [v1.2]
  refine ⟨v2.1, ?_⟩
  rw [v2.2]
  refine ⟨v3.1, ?_⟩
  rw [v3.2]
  refine ⟨v4.1, ?_⟩
  rw [v4.2]
  refine clP hm (by decide) hk (fun v2 M2 o2 q => ?_) (fun _ _ _ q => q.elim)
  obtain ⟨hv2, ho2, ht, hI⟩ := hp2 v2 M2 o2 q
  subst hv2
  refine clI (c_X8_thrown hl M2 o2) (by decide) hk ⟨fun _ => ?_, fun z => absurd ht z⟩
  refine hG 776 _ _ _ _ _ ?_
  exact nx _ _ _ _ _ (Nat.le_refl _) hI
set_option maxRecDepth 16000 in
theorem blk_noise {l : Launch} (hl : l.stackTraces = false) (M : Mem) (o : Ou) {L i c k : Nat} {xs : Nat → Int32} {G : GG} (hG : BodyL l 200 4096 L xs G) (hi : i + 5 < L) (h31 : L < 2 ^ 31) (hk : k + 8 ≤ 4096) (hc : c ≤ 512) (h : Inv c M) (x5 x6 : Option Value) (nx : ∀ M2 o2 y5 y6 k2, k2 ≤ k + 8 → Inv (c + 1) M2 → G 893 [some (.ref SCR), some (.ref 0), some (.ref 11), some (.ref OUT), some (.int (nI i)), y5, y6] [] M2 o2 k2) : G 273 [some (.ref SCR), some (.ref 0), some (.ref 11), some (.ref OUT), some (.int (nI i)), x5, x6] [] M o k := by
  have v1 : vp_in (nI i + 1) L ∧ (nI i + 1).toNatClampNeg = i + 1 := lw_ix (j := 1) (by omega) h31
  obtain ⟨p1, hw, hp⟩ := op_noise hl M o (xs (i + 1)) h
  refine hG 273 _ _ _ _ _ ?_
  refine ⟨v1.1, ?_⟩
  rw [v1.2]
  refine clP hw (by decide) hk (fun v M1 o1 q => ?_) (fun _ _ _ q => q.elim)
  obtain ⟨a, hv, p2, hm, hp2⟩ := hp v M1 o1 q
  subst hv
  refine ⟨v1.1, ?_⟩
  rw [v1.2]
  refine clP hm (by decide) hk (fun v2 M2 o2 q => ?_) (fun _ _ _ q => q.elim)
  obtain ⟨hv2, hI⟩ := hp2 v2 M2 o2 q
  subst hv2
  exact ⟨fun _ => nx _ _ _ _ _ (Nat.le_refl _) hI, fun z => absurd rfl z⟩
set_option maxRecDepth 16000 in
theorem blk_afoot {l : Launch} (hl : l.stackTraces = false) (M : Mem) (o : Ou) {L i c k : Nat} {xs : Nat → Int32} {G : GG} (hG : BodyL l 200 4096 L xs G) (hi : i + 5 < L) (h31 : L < 2 ^ 31) (hk : k + 8 ≤ 4096) (hc : c ≤ 512) (h : Inv c M) (x5 x6 : Option Value) (nx : ∀ M2 o2 y5 y6 k2, k2 ≤ k + 8 → Inv (c + 1) M2 → G 893 [some (.ref SCR), some (.ref 0), some (.ref 11), some (.ref OUT), some (.int (nI i)), y5, y6] [] M2 o2 k2) : G 693 [some (.ref SCR), some (.ref 0), some (.ref 11), some (.ref OUT), some (.int (nI i)), x5, x6] [] M o k := by
  obtain ⟨p1, hw, hp⟩ := op_afoot hl M o h
  refine hG 693 _ _ _ _ _ ?_
  refine clP hw (by decide) hk (fun v M1 o1 q => ?_) (fun _ _ _ q => q.elim)
  obtain ⟨a, hv, p2, hm, hp2⟩ := hp v M1 o1 q
  subst hv
  refine clP hm (by decide) hk (fun v2 M2 o2 q => ?_) (fun _ _ _ q => q.elim)
  obtain ⟨hv2, hI⟩ := hp2 v2 M2 o2 q
  subst hv2
  exact ⟨fun _ => nx _ _ _ _ _ (Nat.le_refl _) hI, fun z => absurd rfl z⟩
set_option maxRecDepth 16000 in
theorem blk_right {l : Launch} (hl : l.stackTraces = false) (M : Mem) (o : Ou) {L i c k : Nat} {xs : Nat → Int32} {G : GG} (hG : BodyL l 200 4096 L xs G) (hi : i + 5 < L) (h31 : L < 2 ^ 31) (hk : k + 8 ≤ 4096) (hc : c ≤ 512) (h : Inv c M) (x5 x6 : Option Value) (nx : ∀ M2 o2 y5 y6 k2, k2 ≤ k + 8 → Inv (c + 1) M2 → G 893 [some (.ref SCR), some (.ref 0), some (.ref 11), some (.ref OUT), some (.int (nI i)), y5, y6] [] M2 o2 k2) : G 852 [some (.ref SCR), some (.ref 0), some (.ref 11), some (.ref OUT), some (.int (nI i)), x5, x6] [] M o k := by
  obtain ⟨p1, hw, hp⟩ := op_right hl M o h
  refine hG 852 _ _ _ _ _ ?_
  refine clP hw (by decide) hk (fun v M1 o1 q => ?_) (fun _ _ _ q => q.elim)
  obtain ⟨a, hv, p2, hm, hp2⟩ := hp v M1 o1 q
  subst hv
  refine clP hm (by decide) hk (fun v2 M2 o2 q => ?_) (fun _ _ _ q => q.elim)
  obtain ⟨hv2, hI⟩ := hp2 v2 M2 o2 q
  subst hv2
  exact ⟨fun _ => nx _ _ _ _ _ (Nat.le_refl _) hI, fun z => absurd rfl z⟩
set_option maxRecDepth 16000 in
theorem blk_foul {l : Launch} (hl : l.stackTraces = false) (M : Mem) (o : Ou) {L i c k : Nat} {xs : Nat → Int32} {G : GG} (hG : BodyL l 200 4096 L xs G) (hi : i + 5 < L) (h31 : L < 2 ^ 31) (hk : k + 8 ≤ 4096) (hc : c ≤ 512) (h : Inv c M) (x5 x6 : Option Value) (nx : ∀ M2 o2 y5 y6 k2, k2 ≤ k + 8 → Inv (c + 1) M2 → G 893 [some (.ref SCR), some (.ref 0), some (.ref 11), some (.ref OUT), some (.int (nI i)), y5, y6] [] M2 o2 k2) : G 859 [some (.ref SCR), some (.ref 0), some (.ref 11), some (.ref OUT), some (.int (nI i)), x5, x6] [] M o k := by
  have v1 : vp_in (nI i + 1) L ∧ (nI i + 1).toNatClampNeg = i + 1 := lw_ix (j := 1) (by omega) h31
  obtain ⟨p1, hw, hp⟩ := op_foul hl M o (xs (i + 1)) h
  refine hG 859 _ _ _ _ _ ?_
  refine ⟨v1.1, ?_⟩
  rw [v1.2]
  refine clP hw (by decide) hk (fun v M1 o1 q => ?_) (fun _ _ _ q => q.elim)
  obtain ⟨a, hv, p2, hm, hp2⟩ := hp v M1 o1 q
  subst hv
  refine ⟨v1.1, ?_⟩
  rw [v1.2]
  refine clP hm (by decide) hk (fun v2 M2 o2 q => ?_) (fun _ _ _ q => q.elim)
  obtain ⟨hv2, hI⟩ := hp2 v2 M2 o2 q
  subst hv2
  exact ⟨fun _ => nx _ _ _ _ _ (Nat.le_refl _) hI, fun z => absurd rfl z⟩
set_option maxRecDepth 16000 in
theorem blk_count {l : Launch} (hl : l.stackTraces = false) (M : Mem) (o : Ou) {L i c k : Nat} {xs : Nat → Int32} {G : GG} (hG : BodyL l 200 4096 L xs G) (hi : i + 5 < L) (h31 : L < 2 ^ 31) (hk : k + 8 ≤ 4096) (hc : c ≤ 512) (h : Inv c M) (x5 x6 : Option Value) (nx : ∀ M2 o2 y5 y6 k2, k2 ≤ k + 8 → Inv (c + 1) M2 → G 893 [some (.ref SCR), some (.ref 0), some (.ref 11), some (.ref OUT), some (.int (nI i)), y5, y6] [] M2 o2 k2) : G 876 [some (.ref SCR), some (.ref 0), some (.ref 11), some (.ref OUT), some (.int (nI i)), x5, x6] [] M o k := by
  have v1 : vp_in (nI i + 1) L ∧ (nI i + 1).toNatClampNeg = i + 1 := lw_ix (j := 1) (by omega) h31
  obtain ⟨p1, hw, hp⟩ := op_count hl M o (xs (i + 1)) h
  refine hG 876 _ _ _ _ _ ?_
  refine ⟨v1.1, ?_⟩
  rw [v1.2]
  refine clP hw (by decide) hk (fun v M1 o1 q => ?_) (fun _ _ _ q => q.elim)
  obtain ⟨a, hv, p2, hm, hp2⟩ := hp v M1 o1 q
  subst hv
  refine ⟨v1.1, ?_⟩
  rw [v1.2]
  refine clP hm (by decide) hk (fun v2 M2 o2 q => ?_) (fun _ _ _ q => q.elim)
  obtain ⟨hv2, hI⟩ := hp2 v2 M2 o2 q
  subst hv2
  exact ⟨fun _ => nx _ _ _ _ _ (Nat.le_refl _) hI, fun z => absurd rfl z⟩
