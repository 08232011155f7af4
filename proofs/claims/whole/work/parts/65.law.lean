/-! THE LAW: its blocks (written by gen/law.py). -/
theorem lw_ix {L i j : Nat} (h : i + j < L) (h31 : L < 2 ^ 31) : vp_in (nI i + nI j) L ∧ (nI i + nI j).toNatClampNeg = i + j := by
  rw [nI_add]
  exact ⟨vp_in_nI h h31, nI_clamp (by omega)⟩
theorem blk_player {l : Launch} (hl : l.stackTraces = false) (M : Mem) (o : Ou) {L i c k : Nat} {xs : Nat → Int32} {G : GG} (hG : BodyL l 200 4096 L xs G) (hi : i + 5 < L) (h31 : L < 2 ^ 31) (hk : k + 8 ≤ 4096) (hc : c ≤ 512) (h : Inv c M) (x5 x6 : Option Value) (nx : ∀ M2 o2 y5 y6 k2, k2 ≤ k + 8 → Inv (c + 1) M2 → G 893 [some (.ref SCR), some (.ref 0), some (.ref 11), some (.ref OUT), some (.int (nI i)), y5, y6] [] M2 o2 k2) : G 26 [some (.ref SCR), some (.ref 0), some (.ref 11), some (.ref OUT), some (.int (nI i)), x5, x6] [] M o k := by
  have v1 : vp_in (nI i + 1) L ∧ (nI i + 1).toNatClampNeg = i + 1 := lw_ix (j := 1) (by omega) h31
  obtain ⟨k1, p1, hk1, hw, hp⟩ := op_player hl M o (xs (i + 1)) h
  refine hG 26 _ _ _ _ _ ?_
  refine ⟨v1.1, ?_⟩
  rw [v1.2]
  refine clP hw (by decide) hk (fun v M1 o1 q => ?_) (fun _ _ _ q => q.elim)
  obtain ⟨hv, p2, hm, hp2⟩ := hp v M1 o1 q
  subst hv
  refine ⟨v1.1, ?_⟩
  rw [v1.2]
  refine clP hm (by decide) hk (fun v2 M2 o2 q => ?_) (fun _ _ _ q => q.elim)
  obtain ⟨b, hv2, ho2, ht, hI, hout⟩ := hp2 v2 M2 o2 q
  subst hv2
  refine clI (c_X8_thrown hl M2 o2) (by decide) hk ⟨fun _ => ?_, fun z => absurd ht z⟩
  refine hG 49 _ _ _ _ _ ?_
  refine ⟨fun _ => ?_, fun z => ?_⟩
  · refine hG 60 _ _ _ _ _ ?_
    exact nx _ _ _ _ _ (Nat.le_refl _) hI
  · have hk0 : k1 = 0 := nI_inj (by omega) (by decide) z
    refine ⟨vp_in_nI (n := 0) (N := 1) (by decide) (by decide), fun _ => ?_, fun z2 => absurd ?_ z2⟩
    · refine hG 60 _ _ _ _ _ ?_
      exact nx _ _ _ _ _ (Nat.le_refl _) hI
    · rw [ho2]
      exact (lg_cmp_eq _ _).mpr (hout hk0)
