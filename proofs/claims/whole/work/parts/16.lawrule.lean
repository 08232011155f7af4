/-! THE LOGIC, PART 8: the law's own body, from its loop on. -/
abbrev ALaw (s : State) : Nat → Prop := fun q => s.heap.size ≤ q
def BodyL (l : Launch) (d K L : Nat) (xs : Nat → Int32) (G : GG) : Prop :=
  ∀ j ls st M o k, exec G (fun v _ _ k => v = some (.int 1) ∧ k ≤ K) (fun _ _ _ _ => False) (fun _ _ _ _ _ => False) (ClA l d K) (L + 1, xs) (e198.drop j) ls st M o k → G j ls st M o k
theorem law_rule {p : Program} {e : Env} {s : State} {m : MethodId} {below : List Frame} {meth : Method} {c : Code} {l : Launch} {b L c0 s0 d K : Nat} {xs : Nat → Int32} (C0 : lw_At p s m meth c b L xs) {θ : Th} (hb0 : θ.1 SCR = b) (hap : apart θ (ALaw s)) (hst : StU θ (ALaw s) s s.heap)
    (hd : 8 ≤ d) (hd2 : d ≤ 1000) (hc : c0 + K ≤ 601024) (hs : s0 + 6 * K ≤ 7293034) {j0 : Nat} {ls0 : Lv} {M0 : Mem} {o0 : Ou} (body : ∀ G : GG, BodyL l d K L xs G → G j0 ls0 [] M0 o0 0)
    {H : Heap} {locs : List Loc} {la : Array Slot} (hP : va_P θ.2.1 vwCl (wcs θ M0 o0) H) (hS : va_S (ALaw s) s.heap H locs) (hl : lh θ la 7 ls0) :
    W p l e room_1 s m #[Value.ref b] below meth c H locs c0 s0 (lw_Z below #[Value.ref b] s) (F0 m (p198.getD j0 0) la []) := by
  obtain ⟨hx, hb, hr, hml, hown, hts, hX, hbl, hlocks, hgv⟩ := id C0
  have hA : Am p s m #[Value.ref b] c θ (ALaw s) 198 (L + 1, xs) := ⟨hx, hb, hml, hown, fun w hw => hts w (List.mem_filter.mp hw).1, hst.1, hap, Or.inr ⟨L, rfl, by rw [hb0]; exact hX, by rw [hb0]; exact hbl, by rw [hb0]; exact Nat.not_le.mpr hbl⟩⟩
  have hA2 : Am2 l room_1 s θ (ALaw s) c0 s0 d K := ⟨hst, fun q hq => hq, by show d ≤ 2048; omega, by show 60 * d ≤ 84000; omega, hc, hs⟩
  have hR : RetOk p l e room_1 s m #[Value.ref b] below meth c (lw_Z below #[Value.ref b] s) θ (ALaw s) 198 c0 s0 (fun v _ _ k => v = some (.int 1) ∧ k ≤ K) := by
    refine ⟨fun x M o k h hrt H locs la pc hP hS hdg => ?_, fun x M o k h hrt => ?_, fun M o k h hrt => ?_⟩
    · cases h.1
      refine va_forget (fun q hq => hS.2.2 q hq) ?_
      refine W.widen (k := 601024) (n := 7293034) (by omega) (by omega) ?_
      exact lw_ret hx hb hr hlocks hdg
    · cases h.1
    · cases h.1
  have hX := exec_sound (e := e) (below := below) (meth := meth) (em := e198) (ps := p198) (tho := fun _ _ _ _ => False) (thr := fun _ _ _ _ _ => False) hA hA2 (by omega) hR (fun _ _ _ _ _ _ _ h => h.elim) (fun j n a v ts _ => fun _ _ _ _ _ h => h.elim) ok198
  have := body _ (fun j ls st M o k h => hX _ j rfl ls st M o k h) H locs la hP hS hl
  exact this
theorem law_flat : (∀ t, t < NTL → Cond.exactly (.string RX7 (TL t).2.2.1) "java/lang/String" ∈ flatC (Jvm.Cond.and given_1 narrow_1)) := by decide +kernel
theorem law_flat2 : Cond.isRef (.static Bundle.tN "UNASSIGNED_STACK" Bundle.steD) ∈ flatC (Jvm.Cond.and given_1 narrow_1) ∧ Cond.isRef (.static Bundle.tN "SUPPRESSED_SENTINEL" Bundle.listD) ∈ flatC (Jvm.Cond.and given_1 narrow_1) := by decide +kernel
theorem law_flat3 : ∀ E ∈ EX, ∀ F ∈ EX, E ≠ F → Cond.not (.castable E F) ∈ flatC (Jvm.Cond.and given_1 narrow_1) := by decide +kernel
theorem law_tb1 : ∀ t, t < NTL → Cond.stringRef RX7 (TL t).2.2.1 (TL t).2.2.2.2.1 ∈ lw_tbl := by decide +kernel
theorem law_tb2 : ∀ w ∈ BW, w ∈ lw_tbl := by decide +kernel
theorem law_tb3 : Cond.laysStatic Bundle.tN "UNASSIGNED_STACK" Bundle.steD ∈ lw_tbl ∧ Cond.laysStatic Bundle.tN "SUPPRESSED_SENTINEL" Bundle.listD ∈ lw_tbl ∧ Cond.initialized Bundle.tN ∈ lw_tbl := by decide +kernel
/-- what the Statement's start gives of statics, texts and classes -/
theorem law_start {p : Program} {s : State} {m : MethodId} {meth : Method} {c : Code} {b L : Nat} {xs : Nat → Int32} (C0 : lw_At p s m meth c b L xs) :
    ∃ sa : Nat → Nat, ∀ (ad : Nat → Nat) (D : va_G) (cs : ClassId × ClassId × ClassId), va_K D vwCl (tysOf (ad, D, cs, sa)) s → StU (ad, D, cs, sa) (ALaw s) s s.heap := by
  obtain ⟨hx, hb, hr, hml, hown, hts, hX, hbl, hlocks, hgv⟩ := id C0
  have hf := flat_of_before _ hgv
  have hex : ∀ t, ∃ a, t < NTL → (Term.string RX7 (TL t).2.2.1).eval #[Value.ref b] s none [] s = some (.ref a) := by
    intro t
    by_cases ht : t < NTL
    · obtain ⟨a, c, cell, k, q1, -⟩ := Cond.exactly_spec (hf _ (law_flat t ht))
      exact ⟨a, fun _ => q1⟩
    · exact ⟨0, fun h => absurd h ht⟩
  refine ⟨fun t => Classical.choose (hex t), fun ad D cs hK => ⟨hK, ?_, ?_, fun t ht => ?_, fun w hw => ?_, fun E hE F hF hn => ?_⟩⟩
  · exact vx_Zqof (hts _ law_tb3.1) (hts _ law_tb3.2.2) (hf _ law_flat2.1) (fun a ha => Nat.not_le.mpr ha)
  · exact vx_Zqof (hts _ law_tb3.2.1) (hts _ law_tb3.2.2) (hf _ law_flat2.2) (fun a ha => Nat.not_le.mpr ha)
  · exact vk_R.of (hts _ (law_tb1 t ht)) (Classical.choose_spec (hex t) ht)
  · exact va_tabs (BW_tab w hw) rfl (hts _ (law_tb2 w hw))
  · exact va_Nc.of (hf _ (law_flat3 E hE F hF hn))
