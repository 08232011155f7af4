/-! THE LAW: its loop. -/
theorem inv0 : Inv 0 M0 := by
  have nl : ∀ f : Nat → Int32, Lst f 0 [] := fun f => Lst.nil
  refine ⟨0, 0, 0, 0, 0, 0, fun _ => 0, fun _ => 0, [], [], [], [], ⟨by decide, by decide, rfl, rfl, rfl, rfl, rfl, fun p hp => absurd hp (Nat.not_lt_zero _), rfl, fun j hj => absurd hj (Nat.not_lt_zero _), fun p hp => Or.inl ⟨rfl, ?_⟩⟩, ⟨by decide, rfl, rfl, rfl⟩, ⟨nl _, nl _, nl _, nl _, bz0, bz0, rfl, rfl, rfl, rfl, rfl, rfl, ⟨nl _, nl _, nl _, fun x hx => absurd hx List.not_mem_nil, fun x hx => absurd hx List.not_mem_nil, fun x hx => absurd hx List.not_mem_nil, by decide⟩, ⟨nl _, nl _, rfl, Nat.zero_le _⟩, fun j hj => absurd hj (Nat.not_lt_zero _), List.nodup_nil, fun x hx => absurd hx List.not_mem_nil, List.nodup_nil, fun x hx => absurd hx List.not_mem_nil, fun j hj => absurd hj (Nat.not_lt_zero _), fun _ => ⟨rfl, rfl, rfl, rfl⟩, fun z => absurd rfl z, fun z => absurd rfl z⟩, ⟨by decide, rfl, rfl, rfl, fun p => Nat.zero_le _, ⟨fun k _ => rfl, fun k _ => rfl⟩, ⟨fun k _ => rfl, fun k _ => rfl⟩, fun k hk => absurd hk (Nat.not_lt_zero _), fun k _ => Nat.zero_le _, fun k _ _ => ⟨rfl, rfl⟩, rfl, by decide, rfl, rfl, rfl⟩, ⟨by decide, rfl, rfl, rfl, rfl, rfl, rfl, rfl, rfl, rfl, rfl, rfl, bz0, rfl, fun i hi => absurd hi (Nat.not_lt_zero _)⟩⟩
  show (if p < 32 then (-1 : Int32) else 0) = -1
  rw [if_pos hp]
theorem inv_up {c : Nat} {M : Mem} (h : Inv c M) : Inv (c + 1) M := by
  obtain ⟨n, t, e, m, dy, r, pl, rd, E, W, H, L, h1, h2, h3, h4, h5⟩ := h
  exact ⟨n, t, e, m, dy, r, pl, rd, E, W, H, L, h1, h2, h3, h4.up, h5⟩
theorem lw_gt {L i : Nat} (hL : L ≤ 3072) (hi : i ≤ L) : nI L - 6 < nI i ↔ L < i + 6 := by
  have e6 : (6 : Int32) = nI 6 := by decide
  rw [e6]
  by_cases h : 6 ≤ L
  · rw [pk_sub h, nI_ltI (by omega) (by omega)]; omega
  · have h1 : nI L - nI 6 < 0 := pk_sneg (by decide) (by omega)
    exact ⟨fun _ => by omega, fun _ => Int32.lt_of_lt_of_le h1 (nI_pos' (by omega))⟩
set_option maxRecDepth 16000 in
theorem law_body {l : Launch} (hl : l.stackTraces = false) {L : Nat} {xs : Nat → Int32} (hL : L ≤ 3072) {G : GG} (hG : BodyL l 200 4096 L xs G) : G 13 ls0 [] M0 o0 0 := by
  have h31 : L < 2 ^ 31 := by omega
  have key : ∀ f i c k M o x5 x6, i = 6 * c → i ≤ L → L ≤ i + f → Inv c M → k ≤ 8 * c → G 14 [some (.ref SCR), some (.ref 0), some (.ref 11), some (.ref OUT), some (.int (nI i)), x5, x6] [] M o k := by
    intro f
    induction f with
    | zero =>
      intro i c k M o x5 x6 hic hiL hLf h hk
      refine hG 14 _ _ _ _ _ ?_
      refine ⟨fun _ => ?_, fun z => absurd ((lw_gt hL hiL).mpr (by omega)) z⟩
      refine hG 895 _ _ _ _ _ ?_
      exact ⟨bz1, rfl, by omega⟩
    | succ f ih =>
      intro i c k M o x5 x6 hic hiL hLf h hk8
      refine hG 14 _ _ _ _ _ ?_
      refine ⟨fun _ => ?_, fun z => ?_⟩
      · refine hG 895 _ _ _ _ _ ?_
        exact ⟨bz1, rfl, by omega⟩
      · have hi6 : ¬ L < i + 6 := fun w => z ((lw_gt hL hiL).mpr w)
        have hi : i + 5 < L := by omega
        have hk : k + 8 ≤ 4096 := by omega
        have hc : c ≤ 512 := by omega
        have nx : ∀ M2 o2 y5 y6 k2, k2 ≤ k + 8 → Inv (c + 1) M2 → G 893 [some (.ref SCR), some (.ref 0), some (.ref 11), some (.ref OUT), some (.int (nI i)), y5, y6] [] M2 o2 k2 := by
          intro M2 o2 y5 y6 k2 hk2 hI
          refine hG 893 _ _ _ _ _ ?_
          have := ih (i + 6) (c + 1) k2 M2 o2 y5 y6 (by omega) (by omega) (by omega) hI (by omega)
          rw [← nI_add i 6] at this
          exact this
        refine ⟨vp_in_nI (by omega) h31, ?_⟩
        exact ⟨fun _ => blk_player hl M o hG hi h31 hk hc h x5 x6 nx, fun _ => ⟨fun _ => blk_rate hl M o hG hi h31 hk hc h x5 x6 nx, fun _ => ⟨fun _ => blk_team hl M o hG hi h31 hk hc h x5 x6 nx, fun _ => ⟨fun _ => blk_strength hl M o hG hi h31 hk hc h x5 x6 nx, fun _ => ⟨fun _ => blk_cup hl M o hG hi h31 hk hc h x5 x6 nx, fun _ => ⟨fun _ => blk_enter hl M o hG hi h31 hk hc h x5 x6 nx, fun _ => ⟨fun _ => blk_noise hl M o hG hi h31 hk hc h x5 x6 nx, fun _ => ⟨fun _ => blk_draw hl M o hG hi h31 hk hc h x5 x6 nx, fun _ => ⟨fun _ => blk_next hl M o hG hi h31 hk hc h x5 x6 nx, fun _ => ⟨fun _ => blk_given hl M o hG hi h31 hk hc h x5 x6 nx, fun _ => ⟨fun _ => blk_play hl M o hG hi h31 hk hc h x5 x6 nx, fun _ => ⟨fun _ => blk_where hl M o hG hi h31 hk hc h x5 x6 nx, fun _ => ⟨fun _ => blk_row hl M o hG hi h31 hk hc h x5 x6 nx, fun _ => ⟨fun _ => blk_pony hl M o hG hi h31 hk hc h x5 x6 nx, fun _ => ⟨fun _ => blk_lame hl M o hG hi h31 hk hc h x5 x6 nx, fun _ => ⟨fun _ => blk_told hl M o hG hi h31 hk hc h x5 x6 nx, fun _ => ⟨fun _ => blk_mount hl M o hG hi h31 hk hc h x5 x6 nx, fun _ => ⟨fun _ => blk_afoot hl M o hG hi h31 hk hc h x5 x6 nx, fun _ => ⟨fun _ => blk_rest hl M o hG hi h31 hk hc h x5 x6 nx, fun _ => ⟨fun _ => blk_ball hl M o hG hi h31 hk hc h x5 x6 nx, fun _ => ⟨fun _ => blk_rider hl M o hG hi h31 hk hc h x5 x6 nx, fun _ => ⟨fun _ => blk_right hl M o hG hi h31 hk hc h x5 x6 nx, fun _ => ⟨fun _ => blk_foul hl M o hG hi h31 hk hc h x5 x6 nx, fun _ => ⟨fun _ => blk_count hl M o hG hi h31 hk hc h x5 x6 nx, fun _ => nx M o x5 x6 k (by omega) (inv_up h)⟩⟩⟩⟩⟩⟩⟩⟩⟩⟩⟩⟩⟩⟩⟩⟩⟩⟩⟩⟩⟩⟩⟩⟩
  refine hG 13 _ _ _ _ _ ?_
  exact key L 0 0 0 M0 o0 none none rfl (Nat.zero_le _) (by omega) inv0 (Nat.le_refl _)
