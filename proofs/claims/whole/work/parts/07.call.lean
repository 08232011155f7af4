/-! THE LOGIC, PART 4: contracts, calls, ends, throws. -/
/-- words of the throws that the tables alone decide -/
def BW : List Cond := EX.map (fun E => Cond.castable E E) ++ (["java/lang/RuntimeException", "java/lang/Exception", Bundle.tN] : List String).map (fun Y => Cond.declares (Bundle.initS Y))
theorem BW_tab : ∀ w ∈ BW, w.onTables = true := by decide +kernel
theorem BW_warm {s U : State} (hW : s.WarmedH U.vm) : ∀ w ∈ BW, va_Nw w s → va_Nw w U := by
  intro w hw h
  rcases List.mem_append.mp hw with h1 | h1
  · obtain ⟨E, -, rfl⟩ := List.mem_map.mp h1
    exact va_Nw.warmC hW h
  · obtain ⟨Y, -, rfl⟩ := List.mem_map.mp h1
    exact va_tabs rfl (rfl : (s.setVm U.vm).vm = U.vm) (by rw [Cond.declares_setVm hW.alike]; exact h)
/-- what the tables and the statics say at a state -/
def StU (θ : Th) (A : Nat → Prop) (U : State) (H : Heap) : Prop :=
  va_K θ.2.1 vwCl (tysOf θ) U ∧ vx_Zq Bundle.tN "UNASSIGNED_STACK" Bundle.steD A U H ∧ vx_Zq Bundle.tN "SUPPRESSED_SENTINEL" Bundle.listD A U H ∧ (∀ t, t < NTL → vk_R RX7 (TL t).2.2.1 (TL t).2.2.2.2.1 (θ.2.2.2 t) U) ∧
  (∀ w ∈ BW, va_Nw w U) ∧ (∀ E ∈ EX, ∀ F ∈ EX, E ≠ F → va_Nc E F U)
def PreU (θ : Th) (sz : Nat) (M : Mem) (o : Ou) (U : State) : Prop := U.heap.size = sz ∧ va_P θ.2.1 vwCl (wcs θ M o) U.heap ∧ apart θ (fun _ => True) ∧ StU θ (Aset θ sz) U U.heap
def rmOf (d kc : Nat) : Room := { frames := d, cells := kc, slots := 6 * kc, locals := 60 * d }
def wsOf (mi : Nat) : List Cond := wCode mi :: GW
def Qof (θ : Th) (sz : Nat) (post : Option Value → Mem → Ou → Prop) : Array Value → State → Outcome → State → Prop := fun _ st oc t =>
  (∃ v M o, oc = .returned (v.map (cv θ)) ∧ post v M o ∧ va_P θ.2.1 vwCl (wcs θ M o) t.heap) ∧ va_F (Aset θ sz) st t
def Xof (θ : Th) (sz : Nat) (px : String → Mem → Ou → Prop) : String → State → State → Prop := fun E st t =>
  (∃ M o, px E M o ∧ va_P θ.2.1 vwCl (wcs θ M o) t.heap) ∧ va_F (Aset θ sz) st t
/-- THE CONTRACT of method mi at the arguments as and the memory M: it returns with post, or throws with px; at most kc throws are made; d bounds its frames -/
def Ct (l : Launch) (d kc mi : Nat) (as : List Value) (M : Mem) (o : Ou) (post : Option Value → Mem → Ou → Prop) (px : String → Mem → Ou → Prop) : Prop :=
  ∀ (θ : Th) (sz : Nat), vx_Met l (yT mi) (wsOf mi) (rmOf d kc) (va_Pc (as.map (cv θ)) (PreU θ sz M o)) (Qof θ sz post) (Xof θ sz px) kc (6 * kc) (Aset θ sz)
def ClA (l : Launch) (d K : Nat) (k mi : Nat) (as : List Value) (M : Mem) (o : Ou) (cont : Option Value → Mem → Ou → Nat → Prop) (xc : String → Mem → Ou → Nat → Prop) : Prop :=
  ∃ d' kc post px, d' < d ∧ k + kc ≤ K ∧ Ct l d' kc mi as M o post px ∧ (∀ v M' o', post v M' o' → cont v M' o' (k + kc)) ∧ (∀ E M' o', px E M' o' → xc E M' o' (k + kc))
theorem StU.blind {θ : Th} {A : Nat → Prop} {U U' : State} {H : Heap} (hv : U'.vm = U.vm) (h : StU θ A U H) : StU θ A U' H := by
  obtain ⟨h1, h2, h3, h4, h5, h6⟩ := h
  have ha : U.vm.Alike U'.vm := by rw [hv]; exact Vm.Alike.refl _
  exact ⟨h1.moved ha, h2.moved ha, h3.moved ha, fun t ht => (h4 t ht).same hv, fun w hw => va_tabs (BW_tab w hw) hv.symm (h5 w hw), fun E hE F hF hn => (h6 E hE F hF hn).moved ha⟩
theorem StU.warm {θ : Th} {A B : Nat → Prop} {s U : State} {H H1 : Heap} (hW : s.WarmedH U.vm) (h : StU θ A s H) (hq : ∀ a : Nat, a < H.size → ¬ A a → H1[a]? = H[a]?) (hB : ∀ q, B q → A q) : StU θ B U H1 := by
  obtain ⟨h1, h2, h3, h4, h5, h6⟩ := h
  exact ⟨h1.moved hW.alike, ((h2.kept hq).moved hW.alike).narrow hB, ((h3.kept hq).moved hW.alike).narrow hB, fun t ht => (h4 t ht).warm hW, fun w hw => BW_warm hW w hw (h5 w hw), fun E hE F hF hn => (h6 E hE F hF hn).moved hW.alike⟩
theorem pre_blind {θ : Th} {sz : Nat} {M : Mem} {o : Ou} {as : List Value} : FrameBlind (va_Pc as (PreU θ sz M o)) := by
  intro a U g mk h
  obtain ⟨h1, h2, h3, h4, h5⟩ := h
  exact ⟨h1, h2, h3, h4, StU.blind (U := U) (U' := U.calling g mk a) (H := U.heap) rfl h5⟩
theorem mf_at {i : Nat} (h : i < NMT) : mfOk i = true := List.all_eq_true.mp mf_all i (List.mem_range.mpr h)
theorem nm_at {i : Nat} (h : i < NMT) (hk : kdT i ≠ 0) : plainName (yT i).cls = true ∧ (yT i).cls = cnm (owT i) ∧ (yT i).cls ≠ "java/lang/invoke/MethodHandle" ∧ (yT i).cls ≠ "java/lang/invoke/VarHandle" ∧ (parseMethodDescriptor (yT i).desc).map (fun d => d.parameters.length) = some (npT i) ∧ mlT i ≤ 40 := by
  have := List.all_eq_true.mp nm_all i (List.mem_range.mpr h)
  simp only [nmOk, Bool.or_eq_true, beq_iff_eq, Bool.and_eq_true, decide_eq_true_eq] at this
  rcases this with q | ⟨⟨⟨⟨⟨q1, q2⟩, q3⟩, q4⟩, q5⟩, q6⟩
  · exact absurd q hk
  · exact ⟨q1, q2, q3, q4, q5, q6⟩
theorem hh_virt : ∀ i, i < NMT → kdT i = 1 → hhT i = none ∧ owT i < 9 := by decide +kernel
section CAL
variable {p : Program} {l : Launch} {e : Env} {R : Room} {s : State} {m : MethodId} {args : Array Value} {below : List Frame} {meth : Method} {c : Code} {Q : State → Prop}
variable {θ : Th} {A : Nat → Prop} {mi c0 s0 d K : Nat} {ps : List Nat} {sc : Nat × (Nat → Int32)}
variable {ret : Option Value → Mem → Ou → Nat → Prop} {tho : String → Mem → Ou → Nat → Prop} {thr : String → Lv → Mem → Ou → Nat → Prop}
/-- a run of a callee, and what is behind it -/
theorem run_W {H : Heap} {locs : List Loc} {cells slots mc ms sz : Nat} {pc : Nat} {ls : Array Slot} {st0 rest : List Value} {a : Array Value} {post : Option Value → Mem → Ou → Prop} {px : String → Mem → Ou → Prop}
    (hr : vx_Run p l e R s m args below meth c H locs cells slots mc ms (F0 m pc ls st0) rest (Qof θ sz post a) (Xof θ sz px) (Aset θ sz)) (hS : va_S A s.heap H locs) (hA : ∀ q, Aset θ sz q → A q)
    (kx : ∀ (E : String) (ce : Cell) (q9 : Addr) (M : Mem) (o : Ou) (H1 : Heap) (locs1 : List Loc), px E M o → va_P θ.2.1 vwCl (wcs θ M o) H1 → va_S A s.heap H1 locs1 → H1[q9]? = some ce → ce.vm = .none → s.vm.findClass E = some ce.cls → vx_W p l e R s m args below meth c H1 locs1 (cells + mc) (slots + ms) Q (F0 m pc ls rest) q9)
    (kk : ∀ (v : Option Value) (M : Mem) (o : Ou) (H1 : Heap) (locs1 : List Loc), post v M o → va_P θ.2.1 vwCl (wcs θ M o) H1 → va_S A s.heap H1 locs1 → W p l e R s m args below meth c H1 locs1 (cells + mc) (slots + ms) Q (F0 m (pc + 3) ls ((v.map (cv θ)).toList ++ rest))) : W p l e R s m args below meth c H locs cells slots Q (F0 m pc ls st0) := by
  intro T hT X
  rcases hr T hT X with ⟨v, st₀, t, T', L, h0, X', hL, e1, e2, ⟨⟨u, M, o, hv, hp, hb⟩, hF⟩, st⟩ | ⟨q, st₀, t, T', L, E, ce, h0, X', hL, e1, e2, ⟨⟨M, o, hp, hb⟩, hF⟩, hce, hcv, hcl, st⟩
  · cases hv
    obtain ⟨k1, k2, k3⟩ := vx_keep h0 e1 hS (fun q _ => hA q) hA hL hF
    obtain ⟨t2, a1, b1⟩ := kk u M o T'.heap (locs ++ L) hp (by rw [e1]; exact hb) k3 T' rfl X'
    exact ⟨t2, st t2 a1, b1⟩
  · obtain ⟨k1, k2, k3⟩ := vx_keep h0 e1 hS (fun q _ => hA q) hA hL hF
    obtain ⟨t2, a1, b1⟩ := kx E ce q M o T'.heap (locs ++ L) hp (by rw [e1]; exact hb) k3 (by rw [e1]; exact hce) hcv hcl T' rfl X'
    exact ⟨t2, st.trans a1, b1⟩
/-- what the ground says more, for calls -/
def Am2 (l : Launch) (R : Room) (s : State) (θ : Th) (A : Nat → Prop) (c0 s0 d K : Nat) : Prop :=
  StU θ A s s.heap ∧ (∀ q, s.heap.size ≤ q → A q) ∧ d ≤ R.frames ∧ 60 * d ≤ R.locals ∧ c0 + K ≤ R.cells ∧ s0 + 6 * K ≤ R.slots
/-- what a throw out of a callee comes to -/
def ThrOk (p : Program) (l : Launch) (e : Env) (R : Room) (s : State) (m : MethodId) (args : Array Value) (below : List Frame) (meth : Method) (c : Code) (Q : State → Prop) (θ : Th) (A : Nat → Prop) (mi : Nat) (ps : List Nat) (c0 s0 : Nat) (thr : String → Lv → Mem → Ou → Nat → Prop) (j : Nat) : Prop :=
  ∀ (E : String) (ls : Lv) (M : Mem) (o : Ou) (k : Nat), thr E ls M o k → ∀ (ce : Cell) (q9 : Addr) (H : Heap) (locs : List Loc) (la : Array Slot) (st : List Value), va_P θ.2.1 vwCl (wcs θ M o) H → va_S A s.heap H locs → lh θ la (mlT mi) ls → H[q9]? = some ce → ce.vm = .none → s.vm.findClass E = some ce.cls →
    vx_W p l e R s m args below meth c H locs (c0 + k) (s0 + 6 * k) Q (F0 m (ps.getD j 0) la st) q9
theorem cb_of (hA : Am p s m args c θ A mi sc) (hA2 : Am2 l R s θ A c0 s0 d K) {a n d' kc : Nat} (hlk : (owT mi, n, a) ∈ ML) (ha : a < NMT) (hk : kdT a ≠ 0) (hh : hhT a = none) (hd : d' < d) :
    CallB R s args (cnm (owT mi)) n (yT a) (bT a) (mlT a) (rtT a) (wsOf a) (rmOf d' kc) kc (6 * kc) (npT a) := by
  obtain ⟨hx, hb, hml, hown, hts, hK, hap, hsc⟩ := hA
  obtain ⟨hst, hAs, hRf, hRl, hRc, hRs⟩ := hA2
  obtain ⟨-, hcn, n1, n2, n3, n4⟩ := nm_at ha hk
  have hcw : wCode a ∈ GW := cw_ok a ha hk
  have hce : wCode a = Cond.code (yT a) (bT a) (mlT a) (rtT a) := by unfold wCode; rw [hh]
  have hini : Cond.initialized (yT a).cls ∈ GW := by
    have h1 := mf_at ha
    unfold mfOk at h1
    split at h1
    · rename_i h0; exact absurd h0 hk
    · simp only [Bool.and_eq_true] at h1
      exact gw_of (of_decide_eq_true h1.2) rfl
    · simp only [Bool.and_eq_true] at h1
      exact gw_of (of_decide_eq_true h1.2) rfl
  refine ⟨rfl, rfl, ?_, ?_, ?_, ?_, ?_, hts _ hini, ⟨n1, n2⟩, ?_, hts _ (ML_ok _ hlk)⟩
  · show d' + 1 ≤ R.frames; omega
  · show 8 + (mlT a + 11) + 60 * d' ≤ R.locals; omega
  · refine pay_in hts (fun w hw => ?_)
    rcases List.mem_cons.mp hw with rfl | hw
    · exact ⟨hcw, GW_good _ hcw⟩
    · exact ⟨hw, GW_good _ hw⟩
  · rw [← hce]; exact List.mem_cons_self
  · rw [← hce]; exact hts _ hcw
  · intro sig hs
    rw [hs] at n3
    exact (Option.some.inj n3).symm
theorem csw_of (hA : Am p s m args c θ A mi sc) (hA2 : Am2 l R s θ A c0 s0 d K) {a n d' kc : Nat} {hh : List (Nat × Nat × Nat × Nat)} (hlk : (owT mi, n, a) ∈ ML) (ha : a < NMT) (hk : kdT a = 2) (hhe : hhT a = some hh) (hd : d' < d) :
    vx_CSW R s args (cnm (owT mi)) n (yT a) (bT a) (mlT a) (rtT a) hh (wsOf a) (rmOf d' kc) kc (6 * kc) (npT a) := by
  obtain ⟨hx, hb, hml, hown, hts, hK, hap, hsc⟩ := hA
  obtain ⟨hst, hAs, hRf, hRl, hRc, hRs⟩ := hA2
  obtain ⟨-, hcn, n1, n2, n3, n4⟩ := nm_at ha (by omega)
  have hcw : wCode a ∈ GW := cw_ok a ha (by omega)
  have hce : wCode a = Cond.codeWith (yT a) (bT a) (mlT a) (rtT a) hh := by unfold wCode; rw [hhe]
  have h1 := mf_at ha
  simp only [mfOk, hk, Bool.and_eq_true] at h1
  refine ⟨⟨rfl, rfl, ?_, ?_, ?_, ?_⟩, ?_, hts _ (gw_of (of_decide_eq_true h1.2) rfl), ⟨n1, n2⟩, ?_, hts _ (ML_ok _ hlk), hts _ (gw_of (of_decide_eq_true h1.1) rfl)⟩
  · show d' + 1 ≤ R.frames; omega
  · show 8 + (mlT a + 11) + 60 * d' ≤ R.locals; omega
  · refine pay_in hts (fun w hw => ?_)
    rcases List.mem_cons.mp hw with rfl | hw
    · exact ⟨hcw, GW_good _ hcw⟩
    · exact ⟨hw, GW_good _ hw⟩
  · rw [← hce]; exact List.mem_cons_self
  · rw [← hce]; exact hts _ hcw
  · intro sig hs
    rw [hs] at n3
    exact (Option.some.inj n3).symm
theorem pre_of (hA : Am p s m args c θ A mi sc) (hA2 : Am2 l R s θ A c0 s0 d K) {H : Heap} {locs : List Loc} {M : Mem} {o : Ou} {as : List Value} (hP : va_P θ.2.1 vwCl (wcs θ M o) H) (hS : va_S A s.heap H locs) :
    ∀ U : State, U.heap = H → s.WarmedH U.vm → va_Pc (as.map (cv θ)) (PreU θ H.size M o) (as.map (cv θ)).toArray U := by
  intro U hU hW
  obtain ⟨-, -, -, -, -, -, hap, -⟩ := hA
  obtain ⟨hst, hAs, -⟩ := hA2
  refine ⟨rfl, by rw [hU], by rw [hU]; exact hP, ⟨hap.1, fun _ _ => trivial⟩, ?_⟩
  rw [hU]
  refine hst.warm hW (fun a h1 h2 => hS.2.1 a h1 h2) (fun q hq => ?_)
  rcases hq with ⟨i, hi, rfl⟩ | hq
  · exact hap.2 i hi
  · exact hAs q (Nat.le_trans hS.1 hq)
theorem sub_of (hA : Am p s m args c θ A mi sc) (hA2 : Am2 l R s θ A c0 s0 d K) {H : Heap} {locs : List Loc} (hS : va_S A s.heap H locs) : ∀ q, Aset θ H.size q → A q := by
  obtain ⟨-, -, -, -, -, -, hap, -⟩ := hA
  obtain ⟨hst, hAs, -⟩ := hA2
  intro q hq
  rcases hq with ⟨i, hi, rfl⟩ | hq
  · exact hap.2 i hi
  · exact hAs q (Nat.le_trans hS.1 hq)
theorem catS_cv {st : List Value} : catS (st.map (cv θ)) = catS st := by
  unfold catS
  rw [List.map_map]
  congr 1
  apply List.map_congr_left
  intro v _
  cases v <;> rfl
theorem lh_size {la : Array Slot} {nL : Nat} {ls : Lv} (h : lh θ la nL ls) : la.size = nL := by
  obtain ⟨-, lv, h1, -⟩ := h
  exact h1.1
theorem s_invokevirtual {n : Nat} (hA : Am p s m args c θ A mi sc) (hA2 : Am2 l R s θ A c0 s0 d K) {a : Nat} {v : Int32} {ts : List Nat} {j : Nat} (hk : okE mi ps j (.invokevirtual n, a, v, ts) = true) (ht : ThrOk p l e R s m args below meth c Q θ A mi ps c0 s0 thr j) {ls : Lv} {st : List Value} {M : Mem} {o : Ou} {k : Nat} {nx : NX}
    (h : step (GA p l e R s m args below meth c Q θ A mi ps c0 s0) ret tho thr (ClA l d K) sc (.invokevirtual n) a v ts ls st M o k nx) (hn : ∀ ls st M o k, nx ls st M o k → GA p l e R s m args below meth c Q θ A mi ps c0 s0 (j + 1) ls st M o k) : GA p l e R s m args below meth c Q θ A mi ps c0 s0 j ls st M o k := by
  simp only [okE, Bool.and_eq_true] at hk
  obtain ⟨⟨⟨⟨⟨hd, hn1⟩, hlk⟩, hkd⟩, hna⟩, ha⟩ := hk
  have hlk : (owT mi, n, a) ∈ ML := by simpa using hlk
  have hkd : kdT a = 1 := of_decide_eq_true hkd
  have ha : a < NMT := of_decide_eq_true ha
  obtain ⟨as, st, hlen, rfl, h2⟩ := popK_e h
  clear h
  rw [List.append_nil] at h2
  split at h2
  · rename_i r As
    obtain ⟨hr, h⟩ := cond_e h2
    obtain ⟨hcat, d', kc, post, px, hdd, hkK, hct, hc1, hc2⟩ := cond_e h
    have hr : clT r = owT a := Nat.eq_of_beq_eq_true hr
    have hcat : catS st ≤ 8 := Nat.le_of_ble_eq_true hcat
    obtain ⟨hhn, how⟩ := hh_virt a ha hkd
    have hrN : r < NO := clT_lt (by omega)
    obtain ⟨-, hcn, -⟩ := nm_at ha (by omega)
    intro H locs la hP hS hl
    have cb := cb_of (kc := kc) hA hA2 hlk ha (by omega) hhn hdd
    have h1 := mf_at ha
    simp only [mfOk, hkd, Bool.and_eq_true] at h1
    obtain ⟨hx, hb, hml, hown, hts, hK, hap, hsc⟩ := id hA
    obtain ⟨hst, hAs, hRf, hRl, hRc, hRs⟩ := id hA2
    have hrun := vx_runV (p := p) (l := l) (e := e) (R := R) (s := s) (m := m) (args := args) (below := below) (meth := meth) (c := c) (H := H) (locs := locs) (cells := c0 + k) (slots := s0 + 6 * k) (Ts := GW) (own := cnm (owT mi)) (C := (yT a).cls) (b := θ.1 r) (As := As.map (cv θ)) (rest := st.map (cv θ)) (g := F0 m (ps.getD j 0) la (((.ref r :: As).reverse ++ st).map (cv θ))) (nL := mlT mi)
      ⟨hx, hb, hml, hown, hts⟩ (hct θ H.size) ⟨cb, hts _ (gw_of (of_decide_eq_true h1.1.1) rfl), hts _ (gw_of (of_decide_eq_true h1.1.2) rfl)⟩
      ⟨pre_blind, by
        have := va_recv hK hP (cls_ok _ (show clT r < 9 by omega)) ((wcs_get (θ := θ) (M := M) (o := o) hrN).trans (by rw [wc_obj (by omega)]))
        dsimp only at this
        rw [hr, ← hcn] at this
        exact this, pre_of (as := .ref r :: As) hA hA2 hP hS⟩ rfl (by have e9 : ts.getD 0 0 = npT a + 1 := of_decide_eq_true hna; rw [e9, List.length_cons] at hlen; rw [List.length_map]; omega) (lh_size hl) (by simp [cv]) (by
        have : catS (st.map (cv θ)) ≤ 8 := by rw [catS_cv]; exact hcat
        exact lv_room this) (of_decide_eq_true hd) ⟨by omega, by omega⟩
    refine run_W hrun hS (sub_of hA hA2 hS) (fun E ce q9 M' o' H1 locs1 hp hP1 hS1 e1 e2 e3 => ?_) (fun v M' o' H1 locs1 hp hP1 hS1 => ?_)
    · have := ht E ls M' o' (k + kc) (hc2 E M' o' hp) ce q9 H1 locs1 la (st.map (cv θ)) hP1 hS1 hl e1 e2 e3
      rw [← Nat.add_assoc, Nat.mul_add, ← Nat.add_assoc] at this
      exact this
    · have w := hn _ _ _ _ _ (hc1 v M' o' hp) H1 locs1 la hP1 hS1 hl
      rw [of_decide_eq_true hn1, ← Nat.add_assoc, Nat.mul_add, ← Nat.add_assoc] at w
      cases v <;> exact w
  · exact h2.elim
theorem math_ok : (yT 177 = Lib.Math.max.name ∧ yT 178 = Lib.Math.min.name) := by decide +kernel
theorem math_w1 : Cond.static Lib.Math.max.name ∈ GW := by
  have : Cond.static Lib.Math.max.name ∈ lw_tbl := by decide +kernel
  exact List.mem_filter.mpr ⟨this, rfl⟩
theorem math_w2 : Cond.static Lib.Math.min.name ∈ GW := by
  have : Cond.static Lib.Math.min.name ∈ lw_tbl := by decide +kernel
  exact List.mem_filter.mpr ⟨this, rfl⟩
theorem math_w3 : Cond.initialized "java/lang/Math" ∈ GW := by
  have : Cond.initialized "java/lang/Math" ∈ lw_tbl := by decide +kernel
  exact List.mem_filter.mpr ⟨this, rfl⟩
theorem math_w4 : Cond.code Lib.Math.max.name Lib.Math.max.code 2 (some .int) ∈ GW := by
  have : Cond.code Lib.Math.max.name Lib.Math.max.code 2 (some .int) ∈ lw_tbl := by decide +kernel
  exact List.mem_filter.mpr ⟨this, rfl⟩
theorem math_w5 : Cond.code Lib.Math.min.name Lib.Math.min.code 2 (some .int) ∈ GW := by
  have : Cond.code Lib.Math.min.name Lib.Math.min.code 2 (some .int) ∈ lw_tbl := by decide +kernel
  exact List.mem_filter.mpr ⟨this, rfl⟩
theorem s_invokestatic {n : Nat} (hA : Am p s m args c θ A mi sc) (hA2 : Am2 l R s θ A c0 s0 d K) {a : Nat} {v : Int32} {ts : List Nat} {j : Nat} (hk : okE mi ps j (.invokestatic n, a, v, ts) = true) (ht : ThrOk p l e R s m args below meth c Q θ A mi ps c0 s0 thr j) {ls : Lv} {st : List Value} {M : Mem} {o : Ou} {k : Nat} {nx : NX} (hd1 : 1 ≤ d)
    (h : step (GA p l e R s m args below meth c Q θ A mi ps c0 s0) ret tho thr (ClA l d K) sc (.invokestatic n) a v ts ls st M o k nx) (hn : ∀ ls st M o k, nx ls st M o k → GA p l e R s m args below meth c Q θ A mi ps c0 s0 (j + 1) ls st M o k) : GA p l e R s m args below meth c Q θ A mi ps c0 s0 j ls st M o k := by
  simp only [okE, Bool.and_eq_true] at hk
  obtain ⟨⟨⟨⟨hd, hn1⟩, hlk⟩, ha⟩, hkk⟩ := hk
  have hlk : (owT mi, n, a) ∈ ML := by simpa using hlk
  have ha : a < NMT := of_decide_eq_true ha
  simp only [step] at h
  obtain ⟨hx, hb, hml, hown, hts, hK, hap, hsc⟩ := id hA
  obtain ⟨hst, hAs, hRf, hRl, hRc, hRs⟩ := id hA2
  split at h
  · rename_i e1
    simp only [e1] at hkk
    cases of_decide_eq_true hkk
    obtain ⟨y, st, rfl, h2⟩ := popI_e h
    clear h
    obtain ⟨x, st, rfl, h3⟩ := popI_e h2
    clear h2
    obtain ⟨hcat, h⟩ := cond_e h3
    rw [Bool.and_eq_true] at hcat
    have hk0 : k = 0 := Nat.eq_of_beq_eq_true hcat.1
    have hcat : catS st ≤ 8 := Nat.le_of_ble_eq_true hcat.2
    intro H locs la hP hS hl
    have w := hn _ _ _ _ _ h H locs la hP hS hl
    rw [of_decide_eq_true hn1] at w
    have hlw := hts _ (ML_ok _ hlk)
    simp only [wML, math_ok.1] at hlw
    have hc2 : catS (st.map (cv θ)) ≤ 8 := by rw [catS_cv]; exact hcat
    exact va_mmax hx hb (by rw [hml, lh_size hl]) hown hlw (hts _ math_w1) (hts _ math_w3) (hts _ math_w4) (by omega) (by unfold catS at hc2; omega) (by omega) (by omega) (of_decide_eq_true hd) w
  · rename_i e1
    simp only [e1] at hkk
    cases of_decide_eq_true hkk
    obtain ⟨y, st, rfl, h2⟩ := popI_e h
    clear h
    obtain ⟨x, st, rfl, h3⟩ := popI_e h2
    clear h2
    obtain ⟨hcat, h⟩ := cond_e h3
    rw [Bool.and_eq_true] at hcat
    have hk0 : k = 0 := Nat.eq_of_beq_eq_true hcat.1
    have hcat : catS st ≤ 8 := Nat.le_of_ble_eq_true hcat.2
    intro H locs la hP hS hl
    have w := hn _ _ _ _ _ h H locs la hP hS hl
    rw [of_decide_eq_true hn1] at w
    have hlw := hts _ (ML_ok _ hlk)
    simp only [wML, math_ok.2] at hlw
    have hc2 : catS (st.map (cv θ)) ≤ 8 := by rw [catS_cv]; exact hcat
    exact va_mmin hx hb (by rw [hml, lh_size hl]) hown hlw (hts _ math_w2) (hts _ math_w3) (hts _ math_w5) (by omega) (by unfold catS at hc2; omega) (by omega) (by omega) (of_decide_eq_true hd) w
  · rename_i e1 e2
    have hkk : (decide (kdT a = 2) && decide (ts.getD 0 0 = npT a)) = true := by
      revert hkk
      split
      · rename_i q; exact absurd q e1
      · rename_i q; exact absurd q e2
      · exact id
    simp only [Bool.and_eq_true, decide_eq_true_eq] at hkk
    obtain ⟨hkd, hna⟩ := hkk
    obtain ⟨as, st, hlen, rfl, h2⟩ := popK_e h
    clear h
    rw [List.append_nil] at h2
    obtain ⟨hcat, d', kc, post, px, hdd, hkK, hct, hc1, hc2⟩ := cond_e h2
    have hcat : catS st ≤ 8 := Nat.le_of_ble_eq_true hcat
    intro H locs la hP hS hl
    have h1 := mf_at ha
    simp only [mfOk, hkd, Bool.and_eq_true] at h1
    have hrm : 2 * (F0 m (ps.getD j 0) la ((as.reverse ++ st).map (cv θ))).monitorRoom + ((st.map (cv θ)).map fun v => v.category).sum ≤ 8 := by
      have : catS (st.map (cv θ)) ≤ 8 := by rw [catS_cv]; exact hcat
      exact lv_room this
    have hrun : vx_Run p l e R s m args below meth c H locs (c0 + k) (s0 + 6 * k) kc (6 * kc) (F0 m (ps.getD j 0) la ((as.reverse ++ st).map (cv θ))) (st.map (cv θ)) (Qof θ H.size post (as.map (cv θ)).toArray) (Xof θ H.size px) (Aset θ H.size) := by
      cases hhe : hhT a with
      | none => exact vx_runS (Ts := GW) (own := cnm (owT mi)) (As := as.map (cv θ)) (nL := mlT mi) ⟨hx, hb, hml, hown, hts⟩ (hct θ H.size) ⟨cb_of (kc := kc) hA hA2 hlk ha (by omega) hhe hdd, hts _ (gw_of (of_decide_eq_true h1.1) rfl)⟩ ⟨pre_blind, pre_of (as := as) hA hA2 hP hS⟩ rfl (by rw [List.length_map, hlen, hna]) (lh_size hl) (by simp) hrm (of_decide_eq_true hd) ⟨by omega, by omega⟩
      | some hh => exact vx_runSX (hh := hh) (Ts := GW) (own := cnm (owT mi)) (As := as.map (cv θ)) (nL := mlT mi) ⟨hx, hb, hml, hown, hts⟩ (hct θ H.size) (csw_of (kc := kc) hA hA2 hlk ha hkd hhe hdd) ⟨pre_blind, pre_of (as := as) hA hA2 hP hS⟩ rfl (by rw [List.length_map, hlen, hna]) (lh_size hl) (by simp) hrm (of_decide_eq_true hd) ⟨by omega, by omega⟩
    refine run_W hrun hS (sub_of hA hA2 hS) (fun E ce q9 M' o' H1 locs1 hp hP1 hS1 e1 e2 e3 => ?_) (fun v M' o' H1 locs1 hp hP1 hS1 => ?_)
    · have := ht E ls M' o' (k + kc) (hc2 E M' o' hp) ce q9 H1 locs1 la (st.map (cv θ)) hP1 hS1 hl e1 e2 e3
      rw [← Nat.add_assoc, Nat.mul_add, ← Nat.add_assoc] at this
      exact this
    · have w := hn _ _ _ _ _ (hc1 v M' o' hp) H1 locs1 la hP1 hS1 hl
      rw [of_decide_eq_true hn1, ← Nat.add_assoc, Nat.mul_add, ← Nat.add_assoc] at w
      cases v <;> exact w
end CAL
