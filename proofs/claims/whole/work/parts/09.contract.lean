/-! THE LOGIC, PART 6: the contract of a method without handlers. -/
def NMS : List String := ["java/lang/RuntimeException", "java/lang/Exception"]
def thwOk (t : Nat) : Bool := atP lw_tbl ((TLp t).getD 0 0) (.classLink RX7 (TL t).2.1 (TL t).1) && atP lw_tbl ((TLp t).getD 1 0) (.initialized (TL t).1)
theorem thw_all : (List.range NTL).all thwOk = true := by decide +kernel
def ATL : List (Nat × String) := [(67, "java/lang/IllegalStateException"), (108, "java/lang/IllegalArgumentException"), (265, "java/lang/IndexOutOfBoundsException")]
theorem atl_in : ∀ t, t < NTL → ((TL t).2.2.2.1, (TL t).1) ∈ ATL := by decide +kernel
theorem ex_in : ∀ t, t < NTL → (TL t).1 ∈ EX := by decide +kernel
theorem atl0 : ∀ w ∈ (vx_atS RX7 67 "java/lang/IllegalStateException" NMS).filter goodWord, w ∈ lw_tbl := by decide +kernel
theorem atl1 : ∀ w ∈ (vx_atS RX7 108 "java/lang/IllegalArgumentException" NMS).filter goodWord, w ∈ lw_tbl := by decide +kernel
theorem atl2 : ∀ w ∈ (vx_atS RX7 265 "java/lang/IndexOutOfBoundsException" NMS).filter goodWord, w ∈ lw_tbl := by decide +kernel
theorem atl_g : ∀ q ∈ ATL, ∀ w ∈ (vx_atS RX7 q.1 q.2 NMS).filter goodWord, w ∈ GW := by
  intro q hq w hw
  have h2 := (List.mem_filter.mp hw).2
  simp only [ATL, List.mem_cons, List.not_mem_nil, or_false] at hq
  rcases hq with rfl | rfl | rfl
  · exact List.mem_filter.mpr ⟨atl0 w hw, h2⟩
  · exact List.mem_filter.mpr ⟨atl1 w hw, h2⟩
  · exact List.mem_filter.mpr ⟨atl2 w hw, h2⟩
theorem atl_n : ∀ q ∈ ATL, ∀ w ∈ (vx_atS RX7 q.1 q.2 NMS).filter (fun w => !goodWord w), w ∈ BW := by decide +kernel
theorem atl_o : ∀ q ∈ ATL, (vx_atS RX7 q.1 q.2 NMS).all vx_ot = true ∧ Bundle.fit q.2 = true := by decide +kernel
theorem nms_fit : ∀ n ∈ NMS, Bundle.fit n = true := by decide +kernel
def entL : List Value → Nat → Lv
  | [], n => List.replicate n none
  | .long x :: vs, n => some (.long x) :: none :: entL vs (n - 2)
  | .double x :: vs, n => some (.double x) :: none :: entL vs (n - 2)
  | .int x :: vs, n => some (.int x) :: entL vs (n - 1)
  | .ref x :: vs, n => some (.ref x) :: entL vs (n - 1)
  | .null :: vs, n => some .null :: entL vs (n - 1)
  | .float x :: vs, n => some (.float x) :: entL vs (n - 1)
  | .retAddr x :: vs, n => some (.retAddr x) :: entL vs (n - 1)
theorem ldv_rep : ∀ {n i : Nat} {v : Value}, ¬ ldv (List.replicate n none) i = some v := by
  intro n
  induction n with
  | zero => intro i v h; cases i <;> simp [ldv] at h
  | succ n ih => intro i v h; cases i with
    | zero => simp [List.replicate_succ, ldv] at h
    | succ i => exact ih (show ldv (List.replicate n none) i = some v from h)
theorem catS_cons (v : Value) (vs : List Value) : catS (v :: vs) = v.category + catS vs := by simp [catS]
theorem entL_len : ∀ {as : List Value} {n : Nat}, catS as ≤ n → (entL as n).length = n := by
  intro as
  induction as with
  | nil => intro n _; simp [entL]
  | cons v vs ih =>
    intro n h
    rw [catS_cons] at h
    cases v <;> (simp only [Value.category] at h; simp only [entL, List.length_cons]; rw [ih (by omega)]; omega)
theorem entL_at {θ : Th} : ∀ {as : List Value} {n b i : Nat} {v : Value}, ldv (entL as n) i = some v → (b + i, cv θ v) ∈ lv_args b (as.map (cv θ)) := by
  intro as
  induction as with
  | nil => intro n b i v h; exact absurd h ldv_rep
  | cons u us ih =>
    intro n b i v h
    have key1 : ∀ {w : Value}, (cv θ w).category = 1 → ldv (some w :: entL us (n - 1)) i = some v → (b + i, cv θ v) ∈ lv_args b ((w :: us).map (cv θ)) := by
      intro w hc h
      simp only [List.map_cons, lv_args, hc]
      cases i with
      | zero => simp only [ldv, Option.some.injEq] at h; subst h; exact List.mem_cons_self
      | succ i =>
        refine List.mem_cons_of_mem _ ?_
        have := ih (b := b + 1) (show ldv (entL us (n - 1)) i = some v from h)
        rw [show b + 1 + i = b + (i + 1) by omega] at this
        simpa using this
    have key2 : ∀ {w : Value}, (cv θ w).category = 2 → ldv (some w :: none :: entL us (n - 2)) i = some v → (b + i, cv θ v) ∈ lv_args b ((w :: us).map (cv θ)) := by
      intro w hc h
      simp only [List.map_cons, lv_args, hc]
      match i, h with
      | 0, h => simp only [ldv, Option.some.injEq] at h; subst h; exact List.mem_cons_self
      | 1, h => simp [ldv] at h
      | i + 2, h =>
        refine List.mem_cons_of_mem _ ?_
        have := ih (b := b + 2) (show ldv (entL us (n - 2)) i = some v from h)
        rw [show b + 2 + i = b + (i + 2) by omega] at this
        simpa using this
    cases u
    · exact key1 rfl h
    · exact key2 rfl h
    · exact key1 rfl h
    · exact key2 rfl h
    · exact key1 rfl h
    · exact key1 rfl h
    · exact key1 rfl h
theorem lg_len {θ : Th} : ∀ {as : List Value}, (lg_sl (as.map (cv θ))).length = catS as := by
  intro as
  induction as with
  | nil => rfl
  | cons v vs ih =>
    have h1 : lg_sl ((v :: vs).map (cv θ)) = (if (cv θ v).category = 2 then [Slot.val (cv θ v), .second] else [.val (cv θ v)]) ++ lg_sl (vs.map (cv θ)) := by simp [lg_sl]
    rw [h1, List.length_append, ih]
    cases v <;> simp [catS, cv, Value.category]
theorem ent_lh {θ : Th} {as : List Value} {n : Nat} (h : catS as ≤ n) : lh θ ((lg_sl (as.map (cv θ)) ++ List.replicate (n - (lg_sl (as.map (cv θ))).length) Slot.unset).toArray) n (entL as n) :=
  ⟨entL_len h, _, lv_entry (as.map (cv θ)) (by rw [lg_len]; exact h), fun i v hv => by have := entL_at (θ := θ) (b := 0) hv; rwa [Nat.zero_add] at this⟩
/-- the rule of a body: what holds at the entry of every predicate that is closed under runs of the body -/
def BodyR (l : Launch) (d K : Nat) (em : List En) (post : Option Value → Mem → Ou → Prop) (px : String → Mem → Ou → Prop) (G : GG) : Prop :=
  ∀ j ls st M o k, exec G (fun v M o k => post v M o ∧ k ≤ K) (fun E M o k => px E M o ∧ k ≤ K) (fun E _ M o k => px E M o ∧ k ≤ K) (ClA l d K) (0, fun _ => 0) (em.drop j) ls st M o k → G j ls st M o k
section CON
variable {p : Program} {l : Launch} {e : Env} {s : State} {m : MethodId} {args : Array Value} {below : List Frame} {meth : Method} {c : Code}
variable {θ : Th} {mi d K : Nat} {ps : List Nat} {sc : Nat × (Nat → Int32)} {post : Option Value → Mem → Ou → Prop} {px : String → Mem → Ou → Prop}
theorem ret_ok (hA : Am p s m args c θ (Aset θ s.heap.size) mi sc) (hr : meth.sig.returnType = rtT mi) (hlocks : meth.locks = false) :
    RetOk p l e (rmOf d K) s m args below meth c (vx_MQ below (Qof θ s.heap.size post) (Xof θ s.heap.size px) args s K (6 * K) (Aset θ s.heap.size)) θ (Aset θ s.heap.size) mi 0 0 (fun v M o k => post v M o ∧ k ≤ K) := by
  obtain ⟨hx, hb, hml, hown, hts, hK, hap, hsc⟩ := hA
  refine ⟨fun x M o k h hrt H locs la pc hP hS hdg => ?_, fun x M o k h hrt H locs la pc hP hS hdg => ?_, fun M o k h hrt H locs la pc hP hS hdg => ?_⟩
  · refine W.widen (k := K) (n := 6 * K) (by omega) (by omega) (vx_ret ?_)
    rcases hrt with q | ⟨q, hz⟩
    · exact W.iret hx hb (hr.trans q) (fun t ht _ => ⟨⟨some (.int x), M, o, rfl, h.1, by rw [ht]; exact hP⟩, hS.F ht⟩) hS.2.2 hdg hlocks
    · exact W.zret hx hb (hr.trans q) (by rcases hz with rfl | rfl <;> decide) (fun t ht _ => ⟨⟨some (.int x), M, o, rfl, h.1, by rw [ht]; exact hP⟩, hS.F ht⟩) hS.2.2 hdg hlocks
  · refine W.widen (k := K) (n := 6 * K) (by omega) (by omega) (vx_ret ?_)
    exact W.lret hx hb (hr.trans hrt) (fun t ht _ => ⟨⟨some (.long x), M, o, rfl, h.1, by rw [ht]; exact hP⟩, hS.F ht⟩) hS.2.2 hdg hlocks
  · refine W.widen (k := K) (n := 6 * K) (by omega) (by omega) (vx_ret ?_)
    exact W.vret hx hb (hr.trans hrt) (fun t ht _ => ⟨⟨none, M, o, rfl, h.1, by rw [ht]; exact hP⟩, hS.F ht⟩) hS.2.2 hdg hlocks
theorem tho_ok (hl0 : l.stackTraces = false) (hd : 8 ≤ d) (hA : Am p s m args c θ (Aset θ s.heap.size) mi sc) (hst : StU θ (Aset θ s.heap.size) s s.heap) (hno : ∀ x ∈ c.exceptionTable.toList, False) (hlocks : meth.locks = false) :
    ThoOk p l e (rmOf d K) s m args below meth c (vx_MQ below (Qof θ s.heap.size post) (Xof θ s.heap.size px) args s K (6 * K) (Aset θ s.heap.size)) θ (Aset θ s.heap.size) mi ps 0 0 (fun E M o k => px E M o ∧ k ≤ K) := by
  obtain ⟨hx, hb, hml, hown, hts, hK, hap, hsc⟩ := hA
  obtain ⟨-, hU, hN, hstr, hca, -⟩ := hst
  intro j ik a hk M o k h H locs la ls st hcat hP hS hl
  rcases hTL : TL a with ⟨E, ik', is, ic, tx, w⟩
  simp only [thOk, hTL, Bool.and_eq_true, decide_eq_true_eq] at hk
  obtain ⟨⟨⟨hik, ha⟩, how⟩, hk⟩ := hk
  subst hik
  have h1 := List.all_eq_true.mp thw_all a (List.mem_range.mpr ha)
  simp only [thwOk, Bool.and_eq_true] at h1
  have hin := atl_in a ha
  have hex := ex_in a ha
  have hs1 := hstr a ha
  rw [hTL] at h1 hin hs1 hex
  dsimp only at h1 hin hs1 hex
  rw [hTL] at h
  dsimp only at h
  rw [how] at hown
  have hat : ∀ w ∈ vx_atS RX7 ic E NMS, w.before args s = true := vx_hat (fun w hw => hts w (atl_g _ hin w hw)) (atl_n _ hin) (fun w hw => va_Nw.use (BW_tab w hw) (hca w hw))
  have hgood : ∀ w ∈ Cond.classLink RX7 ik' E :: Cond.initialized E :: vx_atS RX7 ic E NMS, vx_ot w = true := by
    intro w hw
    rcases List.mem_cons.mp hw with rfl | hw
    · rfl
    · rcases List.mem_cons.mp hw with rfl | hw
      · rfl
      · exact List.all_eq_true.mp (atl_o _ hin).1 w hw
  have hc2 : catS (st.map (cv θ)) ≤ 8 := by rw [catS_cv]; exact hcat
  unfold catS at hc2
  have hxc : ∀ t : State, s.vm.Alike t.vm → H.size ≤ t.heap.size → (∀ q : Nat, q < H.size → t.heap[q]? = H[q]?) → Xof θ s.heap.size px E s t := by
    intro t _ hz hq
    refine ⟨⟨M, o, h.1, hP.kept (fun k q hk => hq _ (hP k q hk).lt)⟩, Nat.le_trans hS.1 hz, fun q h1 h2 => ?_⟩
    rw [hq q (Nat.lt_of_lt_of_le h1 hS.1)]
    exact hS.2.1 q h1 h2
  have hkK : k + 1 ≤ K := h.2
  cases w with
  | false =>
    simp only [Bool.and_eq_true, decide_eq_true_eq] at hk
    obtain ⟨⟨⟨⟨d0, d3⟩, d4⟩, d6⟩, d9⟩ := hk
    exact vx_throwS (R := rmOf d K) (names := NMS) hx hb hl0 hown (atl_o _ hin).2 nms_fit (hts _ (gw_of (of_decide_eq_true h1.1) rfl)) (hts _ (gw_of (of_decide_eq_true h1.2) rfl)) hs1 hat hgood hU hN hS (by rw [lh_size hl, hml]) d0 d3 d4 d6 d9 (fun x hx => (hno x hx).elim)
      (show 2 + 3 < d by omega) (show _ + (13 * (2 + 1) + 43) ≤ 60 * d by omega) (show 0 + k + 1 ≤ K by omega) (show 0 + 6 * k + 6 ≤ 6 * K by omega) hlocks hxc hS.2.2 (by omega) (by omega)
  | true =>
    simp only [Bool.and_eq_true, decide_eq_true_eq] at hk
    obtain ⟨⟨⟨⟨d0, d3⟩, d4⟩, d6⟩, d9⟩ := hk
    exact vx_throwSW (R := rmOf d K) (names := NMS) hx hb hl0 hown (atl_o _ hin).2 nms_fit (hts _ (gw_of (of_decide_eq_true h1.1) rfl)) (hts _ (gw_of (of_decide_eq_true h1.2) rfl)) hs1 hat hgood hU hN hS (by rw [lh_size hl, hml]) d0 d3 d4 d6 d9 (fun x hx => (hno x hx).elim)
      (show 2 + 3 < d by omega) (show _ + (13 * (2 + 1) + 43) ≤ 60 * d by omega) (show 0 + k + 1 ≤ K by omega) (show 0 + 6 * k + 6 ≤ 6 * K by omega) hlocks hxc hS.2.2 (by omega) (by omega)
theorem ct_plain {as : List Value} {M : Mem} {o : Ou} {em : List En} (hl0 : l.stackTraces = false) (hem : chk mi ps em = true) (hmi : mi < NMT) (hkd : kdT mi ≠ 0) (hh : hhT mi = none) (hp0 : ps.getD 0 0 = 0) (hd : 8 ≤ d) (hcat : catS as ≤ mlT mi)
    (body : ∀ G : GG, BodyR l d K em post px G → G 0 (entL as (mlT mi)) [] M o 0) : Ct l d K mi as M o post px := by
  intro θ sz
  obtain ⟨hpn, hcn, -⟩ := nm_at hmi hkd
  have hce : wCode mi = Cond.code (yT mi) (bT mi) (mlT mi) (rtT mi) := by unfold wCode; rw [hh]
  refine vx_ofW (cc := bT mi) (maxL := mlT mi) (ret := rtT mi) (ws' := GW) hpn (by unfold wsOf; rw [hce]) ?_
  intro p e s m args below meth c s₁ B hml hno hv
  obtain ⟨rfl, rfl, hP, hap, hst⟩ := hv
  have hts := atoms_spec (ws := wsOf mi) B.pre
  have hown : s.vm.findClass (yT mi).cls = some m.cls := findClass_of_methodNamed B.named
  rw [hcn] at hown
  have hA : Am p s m (as.map (cv θ)).toArray c θ (Aset θ s.heap.size) mi (0, fun _ => 0) := ⟨B.exec, B.bytes, hml, hown, fun w hw => hts w (List.mem_cons_of_mem _ hw), hst.1, ⟨hap.1, fun i hi => Or.inl ⟨i, hi, rfl⟩⟩, Or.inl rfl⟩
  have hA2 : Am2 l (rmOf d K) s θ (Aset θ s.heap.size) 0 0 d K := ⟨hst, fun q hq => Or.inr hq, Nat.le_refl _, Nat.le_refl _, by show 0 + K ≤ K; omega, by show 0 + 6 * K ≤ 6 * K; omega⟩
  have hX := exec_sound (e := e) (below := below) (meth := meth) (em := em) (ps := ps) (thr := fun E _ M o k => px E M o ∧ k ≤ K) hA hA2 (by omega) (ret_ok (post := post) (px := px) (d := d) (K := K) hA B.returns B.notSynchronized) (tho_ok (post := post) hl0 hd hA hst hno B.notSynchronized) (fun j n a v ts _ => by
    intro E ls M o k h ce q9 H locs la st hP hS hl e1 e2 e3
    exact vx_out (fun x hx => (hno x hx).elim) B.notSynchronized e1 e2 e3 (fun t ht _ => ⟨⟨M, o, h.1, by rw [ht]; exact hP⟩, hS.F ht⟩) hS.2.2 (by omega) (by omega)) hem
  have := body _ (fun j ls st M o k h => hX _ j rfl ls st M o k h) s.heap [] _ hP va_S.rf (ent_lh hcat)
  rw [hp0] at this
  rw [lg_entry_eq]
  exact this
end CON
