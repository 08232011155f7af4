/-! THE LOGIC, PART 3: each instruction of the small machine is one of the machine's. -/
def dcd (mi : Nat) (ps : List Nat) (j : Nat) (i : Instr) (n : Nat) : Bool := decide (decode (bT mi) (ps.getD j 0) = .ok (i, n))
def nxt (ps : List Nat) (j n : Nat) : Bool := decide (ps.getD (j + 1) 0 = ps.getD j 0 + n)
def tgt (ps : List Nat) (j : Nat) (off : Int) (t : Nat) : Bool := decide (((ps.getD j 0 : Nat) : Int) + off = ((ps.getD t 0 : Nat) : Int))
def thOk (mi : Nat) (ps : List Nat) (j ik a : Nat) : Bool := match TL a with
  | (_, ik', is, ic, _, w) => decide (ik' = ik) && decide (a < NTL) && decide (owT mi = 7) && (match w with
    | false => decide (decode (bT mi) (ps.getD j 0) = .ok (.new ik, 3)) && decide (decode (bT mi) (ps.getD j 0 + 3) = .ok (.dup, 1)) && decide (decode (bT mi) (ps.getD j 0 + 4) = .ok (.ldc is, 2)) && decide (decode (bT mi) (ps.getD j 0 + 6) = .ok (.invokespecial ic, 3)) && decide (decode (bT mi) (ps.getD j 0 + 9) = .ok (.athrow, 1))
    | true => decide (decode (bT mi) (ps.getD j 0) = .ok (.new ik, 3)) && decide (decode (bT mi) (ps.getD j 0 + 3) = .ok (.dup, 1)) && decide (decode (bT mi) (ps.getD j 0 + 4) = .ok (.ldc_w is, 3)) && decide (decode (bT mi) (ps.getD j 0 + 7) = .ok (.invokespecial ic, 3)) && decide (decode (bT mi) (ps.getD j 0 + 10) = .ok (.athrow, 1)))
def swOk (ps : List Nat) (j : Nat) : List Int → List Nat → Bool
  | [], [] => true
  | f :: fs, t :: ts => tgt ps j f t && swOk ps j fs ts
  | _, _ => false
def okE (mi : Nat) (ps : List Nat) (j : Nat) : En → Bool
  | (i, a, v, ts) => match i with
    | .iload_n x => dcd mi ps j i 1 && nxt ps j 1 && decide (x.val = a)
    | .iload x => dcd mi ps j i 2 && nxt ps j 2 && decide (x = a)
    | .lload_n x => dcd mi ps j i 1 && nxt ps j 1 && decide (x.val = a)
    | .lload x => dcd mi ps j i 2 && nxt ps j 2 && decide (x = a)
    | .aload_n x => dcd mi ps j i 1 && nxt ps j 1 && decide (x.val = a)
    | .aload x => dcd mi ps j i 2 && nxt ps j 2 && decide (x = a)
    | .istore_n x => dcd mi ps j i 1 && nxt ps j 1 && decide (x.val = a)
    | .istore x => dcd mi ps j i 2 && nxt ps j 2 && decide (x = a)
    | .astore_n x => dcd mi ps j i 1 && nxt ps j 1 && decide (x.val = a)
    | .astore x => dcd mi ps j i 2 && nxt ps j 2 && decide (x = a)
    | .lstore_n x => dcd mi ps j i 1 && nxt ps j 1 && decide (x.val = a)
    | .lstore x => dcd mi ps j i 2 && nxt ps j 2 && decide (x = a)
    | .iinc x n => dcd mi ps j i 3 && nxt ps j 3 && decide (x = a) && decide (Int32.ofInt n = v)
    | .iconst n => dcd mi ps j i 1 && nxt ps j 1 && decide (Int32.ofInt n = v)
    | .bipush n => dcd mi ps j i 2 && nxt ps j 2 && decide ((Int8.ofInt n).toInt32 = v)
    | .sipush n => dcd mi ps j i 3 && nxt ps j 3 && decide ((Int16.ofInt n).toInt32 = v)
    | .ldc n => dcd mi ps j i 2 && nxt ps j 2 && atP lw_tbl a (.constant (cnm (owT mi)) n v)
    | .ldc2_w n => dcd mi ps j i 3 && nxt ps j 3 && atP lw_tbl a (.constantLong (cnm (owT mi)) n 4294967295)
    | .lconst x => dcd mi ps j i 1 && nxt ps j 1 && decide (x.val = a)
    | .iadd => dcd mi ps j i 1 && nxt ps j 1
    | .isub => dcd mi ps j i 1 && nxt ps j 1
    | .imul => dcd mi ps j i 1 && nxt ps j 1
    | .iand => dcd mi ps j i 1 && nxt ps j 1
    | .idiv => dcd mi ps j i 1 && nxt ps j 1
    | .irem => dcd mi ps j i 1 && nxt ps j 1
    | .ladd => dcd mi ps j i 1 && nxt ps j 1
    | .lsub => dcd mi ps j i 1 && nxt ps j 1
    | .lmul => dcd mi ps j i 1 && nxt ps j 1
    | .land => dcd mi ps j i 1 && nxt ps j 1
    | .lcmp => dcd mi ps j i 1 && nxt ps j 1
    | .lrem => dcd mi ps j i 1 && nxt ps j 1
    | .i2l => dcd mi ps j i 1 && nxt ps j 1
    | .l2i => dcd mi ps j i 1 && nxt ps j 1
    | .dup => dcd mi ps j i 1 && nxt ps j 1
    | .dup2 => dcd mi ps j i 1 && nxt ps j 1
    | .if_icmp cc off => dcd mi ps j i 3 && nxt ps j 3 && tgt ps j off (ts.getD 0 0)
    | .ifCond cc off => dcd mi ps j i 3 && nxt ps j 3 && tgt ps j off (ts.getD 0 0)
    | .goto off => dcd mi ps j i 3 && tgt ps j off (ts.getD 0 0)
    | .nop => decide (ps.getD j 0 = ps.getD a 0)
    | .tableswitch d lo hi offs => dcd mi ps j i (ps.getD (j + 1) 0 - ps.getD j 0) && decide (lo = 0) && decide (hi = (offs.size : Int) - 1) && tgt ps j d (ts.getD 0 0) && swOk ps j offs.toList ts.tail && decide (offs.size < 1000)
    | .getfield n => dcd mi ps j i 3 && nxt ps j 3 && FL.contains (owT mi, n, ts.getD 0 0, a)
    | .putfield n => dcd mi ps j i 3 && nxt ps j 3 && FL.contains (owT mi, n, ts.getD 0 0, a) && decide ((TT (ts.getD 0 0) a).2.2.2 = false) && decide (tyT (ts.getD 0 0) a = if ts.getD 1 0 = 0 then .int else .boolean)
    | .iaload => dcd mi ps j i 1 && nxt ps j 1
    | .baload => dcd mi ps j i 1 && nxt ps j 1
    | .laload => dcd mi ps j i 1 && nxt ps j 1
    | .iastore => dcd mi ps j i 1 && nxt ps j 1
    | .bastore => dcd mi ps j i 1 && nxt ps j 1
    | .lastore => dcd mi ps j i 1 && nxt ps j 1
    | .arraylength => dcd mi ps j i 1 && nxt ps j 1
    | .invokevirtual n => dcd mi ps j i 3 && nxt ps j 3 && ML.contains (owT mi, n, a) && decide (kdT a = 1) && decide (ts.getD 0 0 = npT a + 1) && decide (a < NMT)
    | .invokestatic n => dcd mi ps j i 3 && nxt ps j 3 && ML.contains (owT mi, n, a) && decide (a < NMT) && (match ts.getD 1 0 with
      | 1 => decide (a = 177)
      | 2 => decide (a = 178)
      | _ => decide (kdT a = 2) && decide (ts.getD 0 0 = npT a))
    | .new n => thOk mi ps j n a
    | .ireturn => dcd mi ps j i 1 && (match a with | 0 => decide (rtT mi = some .int) | _ => decide (rtT mi = some .boolean))
    | .lreturn => dcd mi ps j i 1 && decide (rtT mi = some .long)
    | .return_ => dcd mi ps j i 1 && decide (rtT mi = none)
    | _ => true
/-- the ground on which a body is walked -/
def Am (p : Program) (s : State) (m : MethodId) (args : Array Value) (c : Code) (θ : Th) (A : Nat → Prop) (mi : Nat) (sc : Nat × (Nat → Int32)) : Prop :=
  p.tables.exec = Jvm.exec ∧ c.code = bT mi ∧ c.maxLocals = mlT mi ∧ s.vm.findClass (cnm (owT mi)) = some m.cls ∧ (∀ w ∈ GW, w.before args s = true) ∧ va_K θ.2.1 vwCl (tysOf θ) s ∧ apart θ A ∧
  (sc.1 = 0 ∨ ∃ L, sc.1 = L + 1 ∧ va_X (θ.1 SCR) L sc.2 s s.heap ∧ θ.1 SCR < s.heap.size ∧ ¬ A (θ.1 SCR))
def lh (θ : Th) (la : Array Slot) (nL : Nat) (ls : Lv) : Prop := ls.length = nL ∧ ∃ lv, lv_has la nL lv ∧ ∀ i v, ldv ls i = some v → (i, cv θ v) ∈ lv
/-- from this place on the machine comes to its end with Q -/
def GA (p : Program) (l : Launch) (e : Env) (R : Room) (s : State) (m : MethodId) (args : Array Value) (below : List Frame) (meth : Method) (c : Code) (Q : State → Prop) (θ : Th) (A : Nat → Prop) (mi : Nat) (ps : List Nat) (c0 s0 : Nat) : GG := fun j ls st M o k =>
  ∀ (H : Heap) (locs : List Loc) (la : Array Slot), va_P θ.2.1 vwCl (wcs θ M o) H → va_S A s.heap H locs → lh θ la (mlT mi) ls → W p l e R s m args below meth c H locs (c0 + k) (s0 + 6 * k) Q (F0 m (ps.getD j 0) la (st.map (cv θ)))
theorem lh_at {θ : Th} {la : Array Slot} {nL : Nat} {ls : Lv} (h : lh θ la nL ls) {i : Nat} {v : Value} (hv : ldv ls i = some v) : la[i]? = some (.val (cv θ v)) := by
  obtain ⟨-, lv, h1, h2⟩ := h
  exact h1.2.2 _ (h2 _ _ hv)
theorem lh_set {θ : Th} {la la' : Array Slot} {nL a : Nat} {ls : Lv} {lv : List (Nat × Value)} {x : Value} (h : lh θ la nL ls) (hm : ∀ i v, ldv ls i = some v → (i, cv θ v) ∈ lv)
    (hl : lv_has la' nL ((a, cv θ x) :: lv.filter (fun q => !(q.1 == a) && !(q.1 + 1 == a && q.2.category == 2)))) (hlen : (setv ls a (some x)).length = ls.length) : lh θ la' nL (setv ls a (some x)) := by
  refine ⟨hlen.trans h.1, _, hl, fun i v hv => ?_⟩
  rcases setv_at hv with ⟨e1, e2⟩ | ⟨e1, e2, e3⟩
  · cases e2; subst e1; exact List.mem_cons_self
  · refine List.mem_cons_of_mem _ (List.mem_filter.mpr ⟨hm _ _ e2, ?_⟩)
    have hc : (cv θ v).category = v.category := by cases v <;> rfl
    simp only [hc, Bool.and_eq_true, Bool.not_eq_true', beq_eq_false_iff_ne, ne_eq, Bool.and_eq_false_imp, beq_iff_eq]
    exact ⟨e1, fun q1 q2 => e3 ⟨q1, q2⟩⟩
theorem lh_set2 {θ : Th} {la la' : Array Slot} {nL a : Nat} {ls : Lv} {lv : List (Nat × Value)} {x : Value} (h : lh θ la nL ls) (hm : ∀ i v, ldv ls i = some v → (i, cv θ v) ∈ lv)
    (hl : lv_has la' nL ((a, cv θ x) :: lv.filter (fun q => !(q.1 == a) && (!(q.1 == a + 1) && !(q.1 + 1 == a && q.2.category == 2))))) (hlen : (clv (setv ls a (some x)) (a + 1)).length = ls.length) : lh θ la' nL (clv (setv ls a (some x)) (a + 1)) := by
  refine ⟨hlen.trans h.1, _, hl, fun i v hv => ?_⟩
  obtain ⟨e0, hv⟩ := clv_at hv
  rcases setv_at hv with ⟨e1, e2⟩ | ⟨e1, e2, e3⟩
  · cases e2; subst e1; exact List.mem_cons_self
  · refine List.mem_cons_of_mem _ (List.mem_filter.mpr ⟨hm _ _ e2, ?_⟩)
    have hc : (cv θ v).category = v.category := by cases v <;> rfl
    simp only [hc, Bool.and_eq_true, Bool.not_eq_true', beq_eq_false_iff_ne, ne_eq, Bool.and_eq_false_imp, beq_iff_eq]
    exact ⟨e1, e0, fun q1 q2 => e3 ⟨q1, q2⟩⟩
theorem clT_kinds : ∀ i, i < NO → clT i < 9 ∨ clT i = 9 ∨ clT i = 10 ∨ clT i = 11 := by decide +kernel
theorem own_ok : ∀ ci, ci < 9 → ∀ k, k < nfT ci → (TT ci k).1 = cnm ci := by decide +kernel
theorem wc_out {θ : Th} {M : Mem} {o o' : Ou} {i : Nat} (hi : i < NO) (h : ¬ clT i = 11) : wc θ M o' i = wc θ M o i := by
  rcases clT_kinds i hi with q | q | q | q
  · rw [wc_obj q, wc_obj q]
  · rw [wc_int q, wc_int q]
  · rw [wc_bool q, wc_bool q]
  · exact absurd q h
theorem sw_e {G : Nat → Prop} {x : Int32} {d : Nat} {ps : List Nat} {j : Nat} : ∀ {fs : List Int} {ts : List Nat} {b : Nat}, swOk ps j fs ts = true → b + fs.length < 1000 → swK G x d b ts →
    (∃ (i : Nat) (off : Int) (t : Nat), fs[i]? = some off ∧ x = nI (b + i) ∧ ((ps.getD j 0 : Nat) : Int) + off = ((ps.getD t 0 : Nat) : Int) ∧ G t) ∨ ((∀ i, i < fs.length → ¬ x = nI (b + i)) ∧ G d) := by
  intro fs
  induction fs with
  | nil =>
    intro ts b h1 h2 h3
    cases ts with
    | nil => exact Or.inr ⟨fun i hi => by simp at hi, h3⟩
    | cons t ts => simp [swOk] at h1
  | cons f fs ih =>
    intro ts b h1 h2 h3
    cases ts with
    | nil => simp [swOk] at h1
    | cons t ts =>
      simp only [swOk, Bool.and_eq_true] at h1
      obtain ⟨h3, h4⟩ := h3
      by_cases e : x = nI b
      · exact Or.inl ⟨0, f, t, rfl, by simpa using e, of_decide_eq_true h1.1, h3 e⟩
      · rcases ih h1.2 (by simp at h2; omega) (h4 e) with ⟨i, off, t', e1, e2, e3, e4⟩ | ⟨e1, e2⟩
        · exact Or.inl ⟨i + 1, off, t', by simpa using e1, by rw [e2]; congr 1; omega, e3, e4⟩
        · refine Or.inr ⟨fun i hi => ?_, e2⟩
          cases i with
          | zero => simpa using e
          | succ i => rw [show b + (i + 1) = b + 1 + i by omega]; exact e1 i (by simpa using hi)
section SND
variable {p : Program} {l : Launch} {e : Env} {R : Room} {s : State} {m : MethodId} {args : Array Value} {below : List Frame} {meth : Method} {c : Code} {Q : State → Prop}
variable {θ : Th} {A : Nat → Prop} {mi c0 s0 : Nat} {ps : List Nat} {sc : Nat × (Nat → Int32)}
variable {ret : Option Value → Mem → Ou → Nat → Prop} {tho : String → Mem → Ou → Nat → Prop} {thr : String → Lv → Mem → Ou → Nat → Prop}
  {Cl : Nat → Nat → List Value → Mem → Ou → (Option Value → Mem → Ou → Nat → Prop) → (String → Mem → Ou → Nat → Prop) → Prop}
theorem s_iload_n {x : Fin 4} (hA : Am p s m args c θ A mi sc) {a : Nat} {v : Int32} {ts : List Nat} {j : Nat} (hk : okE mi ps j (.iload_n x, a, v, ts) = true) {ls : Lv} {st : List Value} {M : Mem} {o : Ou} {k : Nat} {nx : NX}
    (h : step (GA p l e R s m args below meth c Q θ A mi ps c0 s0) ret tho thr Cl sc (.iload_n x) a v ts ls st M o k nx) (hn : ∀ ls st M o k, nx ls st M o k → GA p l e R s m args below meth c Q θ A mi ps c0 s0 (j + 1) ls st M o k) : GA p l e R s m args below meth c Q θ A mi ps c0 s0 j ls st M o k := by
  obtain ⟨hx, hb, hml, hown, hts, hK, hap, hsc⟩ := hA
  simp only [okE, Bool.and_eq_true] at hk
  obtain ⟨⟨hd, hn1⟩, he⟩ := hk
  obtain ⟨y, hy, h⟩ := ldI_e h
  intro H locs la hP hS hl
  have w := hn _ _ _ _ _ h H locs la hP hS hl
  rw [of_decide_eq_true hn1] at w
  exact lv_iload_n hx hb (of_decide_eq_true hd) (of_decide_eq_true he) (lh_at hl hy) w
theorem s_iload {x : Nat} (hA : Am p s m args c θ A mi sc) {a : Nat} {v : Int32} {ts : List Nat} {j : Nat} (hk : okE mi ps j (.iload x, a, v, ts) = true) {ls : Lv} {st : List Value} {M : Mem} {o : Ou} {k : Nat} {nx : NX}
    (h : step (GA p l e R s m args below meth c Q θ A mi ps c0 s0) ret tho thr Cl sc (.iload x) a v ts ls st M o k nx) (hn : ∀ ls st M o k, nx ls st M o k → GA p l e R s m args below meth c Q θ A mi ps c0 s0 (j + 1) ls st M o k) : GA p l e R s m args below meth c Q θ A mi ps c0 s0 j ls st M o k := by
  obtain ⟨hx, hb, hml, hown, hts, hK, hap, hsc⟩ := hA
  simp only [okE, Bool.and_eq_true] at hk
  obtain ⟨⟨hd, hn1⟩, he⟩ := hk
  cases of_decide_eq_true he
  obtain ⟨y, hy, h⟩ := ldI_e h
  intro H locs la hP hS hl
  have w := hn _ _ _ _ _ h H locs la hP hS hl
  rw [of_decide_eq_true hn1] at w
  exact lv_iload hx hb (of_decide_eq_true hd) (lh_at hl hy) w
theorem s_lload_n {x : Fin 4} (hA : Am p s m args c θ A mi sc) {a : Nat} {v : Int32} {ts : List Nat} {j : Nat} (hk : okE mi ps j (.lload_n x, a, v, ts) = true) {ls : Lv} {st : List Value} {M : Mem} {o : Ou} {k : Nat} {nx : NX}
    (h : step (GA p l e R s m args below meth c Q θ A mi ps c0 s0) ret tho thr Cl sc (.lload_n x) a v ts ls st M o k nx) (hn : ∀ ls st M o k, nx ls st M o k → GA p l e R s m args below meth c Q θ A mi ps c0 s0 (j + 1) ls st M o k) : GA p l e R s m args below meth c Q θ A mi ps c0 s0 j ls st M o k := by
  obtain ⟨hx, hb, hml, hown, hts, hK, hap, hsc⟩ := hA
  simp only [okE, Bool.and_eq_true] at hk
  obtain ⟨⟨hd, hn1⟩, he⟩ := hk
  obtain ⟨y, hy, h⟩ := ldL_e h
  intro H locs la hP hS hl
  have w := hn _ _ _ _ _ h H locs la hP hS hl
  rw [of_decide_eq_true hn1] at w
  exact lv_lload_n hx hb (of_decide_eq_true hd) (of_decide_eq_true he) (lh_at hl hy) w
theorem s_lload {x : Nat} (hA : Am p s m args c θ A mi sc) {a : Nat} {v : Int32} {ts : List Nat} {j : Nat} (hk : okE mi ps j (.lload x, a, v, ts) = true) {ls : Lv} {st : List Value} {M : Mem} {o : Ou} {k : Nat} {nx : NX}
    (h : step (GA p l e R s m args below meth c Q θ A mi ps c0 s0) ret tho thr Cl sc (.lload x) a v ts ls st M o k nx) (hn : ∀ ls st M o k, nx ls st M o k → GA p l e R s m args below meth c Q θ A mi ps c0 s0 (j + 1) ls st M o k) : GA p l e R s m args below meth c Q θ A mi ps c0 s0 j ls st M o k := by
  obtain ⟨hx, hb, hml, hown, hts, hK, hap, hsc⟩ := hA
  simp only [okE, Bool.and_eq_true] at hk
  obtain ⟨⟨hd, hn1⟩, he⟩ := hk
  cases of_decide_eq_true he
  obtain ⟨y, hy, h⟩ := ldL_e h
  intro H locs la hP hS hl
  have w := hn _ _ _ _ _ h H locs la hP hS hl
  rw [of_decide_eq_true hn1] at w
  exact lv_lload hx hb (of_decide_eq_true hd) (lh_at hl hy) w
theorem s_aload_n {x : Fin 4} (hA : Am p s m args c θ A mi sc) {a : Nat} {v : Int32} {ts : List Nat} {j : Nat} (hk : okE mi ps j (.aload_n x, a, v, ts) = true) {ls : Lv} {st : List Value} {M : Mem} {o : Ou} {k : Nat} {nx : NX}
    (h : step (GA p l e R s m args below meth c Q θ A mi ps c0 s0) ret tho thr Cl sc (.aload_n x) a v ts ls st M o k nx) (hn : ∀ ls st M o k, nx ls st M o k → GA p l e R s m args below meth c Q θ A mi ps c0 s0 (j + 1) ls st M o k) : GA p l e R s m args below meth c Q θ A mi ps c0 s0 j ls st M o k := by
  obtain ⟨hx, hb, hml, hown, hts, hK, hap, hsc⟩ := hA
  simp only [okE, Bool.and_eq_true] at hk
  obtain ⟨⟨hd, hn1⟩, he⟩ := hk
  obtain ⟨y, hy, h⟩ := ldR_e h
  intro H locs la hP hS hl
  have w := hn _ _ _ _ _ h H locs la hP hS hl
  rw [of_decide_eq_true hn1] at w
  exact lv_aload_n hx hb (of_decide_eq_true hd) (of_decide_eq_true he) (lh_at hl hy) w
theorem s_aload {x : Nat} (hA : Am p s m args c θ A mi sc) {a : Nat} {v : Int32} {ts : List Nat} {j : Nat} (hk : okE mi ps j (.aload x, a, v, ts) = true) {ls : Lv} {st : List Value} {M : Mem} {o : Ou} {k : Nat} {nx : NX}
    (h : step (GA p l e R s m args below meth c Q θ A mi ps c0 s0) ret tho thr Cl sc (.aload x) a v ts ls st M o k nx) (hn : ∀ ls st M o k, nx ls st M o k → GA p l e R s m args below meth c Q θ A mi ps c0 s0 (j + 1) ls st M o k) : GA p l e R s m args below meth c Q θ A mi ps c0 s0 j ls st M o k := by
  obtain ⟨hx, hb, hml, hown, hts, hK, hap, hsc⟩ := hA
  simp only [okE, Bool.and_eq_true] at hk
  obtain ⟨⟨hd, hn1⟩, he⟩ := hk
  cases of_decide_eq_true he
  obtain ⟨y, hy, h⟩ := ldR_e h
  intro H locs la hP hS hl
  have w := hn _ _ _ _ _ h H locs la hP hS hl
  rw [of_decide_eq_true hn1] at w
  exact lv_aload hx hb (of_decide_eq_true hd) (lh_at hl hy) w
theorem s_istore_n {x : Fin 4} (hA : Am p s m args c θ A mi sc) {a : Nat} {v : Int32} {ts : List Nat} {j : Nat} (hk : okE mi ps j (.istore_n x, a, v, ts) = true) {ls : Lv} {st : List Value} {M : Mem} {o : Ou} {k : Nat} {nx : NX}
    (h : step (GA p l e R s m args below meth c Q θ A mi ps c0 s0) ret tho thr Cl sc (.istore_n x) a v ts ls st M o k nx) (hn : ∀ ls st M o k, nx ls st M o k → GA p l e R s m args below meth c Q θ A mi ps c0 s0 (j + 1) ls st M o k) : GA p l e R s m args below meth c Q θ A mi ps c0 s0 j ls st M o k := by
  obtain ⟨hx, hb, hml, hown, hts, hK, hap, hsc⟩ := hA
  simp only [okE, Bool.and_eq_true] at hk
  obtain ⟨⟨hd, hn1⟩, he⟩ := hk
  obtain ⟨y, st, rfl, h⟩ := popI_e h
  obtain ⟨h, h1, h2⟩ := stK_e h
  intro H locs la hP hS hl
  obtain ⟨hlen, lv, hv, hm⟩ := id hl
  exact lv_istore_n hx hb (of_decide_eq_true hd) (of_decide_eq_true he) hv (by omega) rfl (fun ls' hl' => by
    have w := hn _ _ _ _ _ h H locs ls' hP hS (lh_set hl hm hl' h2)
    rw [of_decide_eq_true hn1] at w
    exact w)
theorem s_istore {x : Nat} (hA : Am p s m args c θ A mi sc) {a : Nat} {v : Int32} {ts : List Nat} {j : Nat} (hk : okE mi ps j (.istore x, a, v, ts) = true) {ls : Lv} {st : List Value} {M : Mem} {o : Ou} {k : Nat} {nx : NX}
    (h : step (GA p l e R s m args below meth c Q θ A mi ps c0 s0) ret tho thr Cl sc (.istore x) a v ts ls st M o k nx) (hn : ∀ ls st M o k, nx ls st M o k → GA p l e R s m args below meth c Q θ A mi ps c0 s0 (j + 1) ls st M o k) : GA p l e R s m args below meth c Q θ A mi ps c0 s0 j ls st M o k := by
  obtain ⟨hx, hb, hml, hown, hts, hK, hap, hsc⟩ := hA
  simp only [okE, Bool.and_eq_true] at hk
  obtain ⟨⟨hd, hn1⟩, he⟩ := hk
  cases of_decide_eq_true he
  obtain ⟨y, st, rfl, h⟩ := popI_e h
  obtain ⟨h, h1, h2⟩ := stK_e h
  intro H locs la hP hS hl
  obtain ⟨hlen, lv, hv, hm⟩ := id hl
  exact lv_istore hx hb (of_decide_eq_true hd) hv (by omega) rfl (fun ls' hl' => by
    have w := hn _ _ _ _ _ h H locs ls' hP hS (lh_set hl hm hl' h2)
    rw [of_decide_eq_true hn1] at w
    exact w)
theorem s_astore_n {x : Fin 4} (hA : Am p s m args c θ A mi sc) {a : Nat} {v : Int32} {ts : List Nat} {j : Nat} (hk : okE mi ps j (.astore_n x, a, v, ts) = true) {ls : Lv} {st : List Value} {M : Mem} {o : Ou} {k : Nat} {nx : NX}
    (h : step (GA p l e R s m args below meth c Q θ A mi ps c0 s0) ret tho thr Cl sc (.astore_n x) a v ts ls st M o k nx) (hn : ∀ ls st M o k, nx ls st M o k → GA p l e R s m args below meth c Q θ A mi ps c0 s0 (j + 1) ls st M o k) : GA p l e R s m args below meth c Q θ A mi ps c0 s0 j ls st M o k := by
  obtain ⟨hx, hb, hml, hown, hts, hK, hap, hsc⟩ := hA
  simp only [okE, Bool.and_eq_true] at hk
  obtain ⟨⟨hd, hn1⟩, he⟩ := hk
  obtain ⟨y, st, rfl, h⟩ := popR_e h
  obtain ⟨h, h1, h2⟩ := stK_e h
  intro H locs la hP hS hl
  obtain ⟨hlen, lv, hv, hm⟩ := id hl
  exact lv_astore_n hx hb (of_decide_eq_true hd) (of_decide_eq_true he) hv (by omega) rfl (fun ls' hl' => by
    have w := hn _ _ _ _ _ h H locs ls' hP hS (lh_set hl hm hl' h2)
    rw [of_decide_eq_true hn1] at w
    exact w)
theorem s_astore {x : Nat} (hA : Am p s m args c θ A mi sc) {a : Nat} {v : Int32} {ts : List Nat} {j : Nat} (hk : okE mi ps j (.astore x, a, v, ts) = true) {ls : Lv} {st : List Value} {M : Mem} {o : Ou} {k : Nat} {nx : NX}
    (h : step (GA p l e R s m args below meth c Q θ A mi ps c0 s0) ret tho thr Cl sc (.astore x) a v ts ls st M o k nx) (hn : ∀ ls st M o k, nx ls st M o k → GA p l e R s m args below meth c Q θ A mi ps c0 s0 (j + 1) ls st M o k) : GA p l e R s m args below meth c Q θ A mi ps c0 s0 j ls st M o k := by
  obtain ⟨hx, hb, hml, hown, hts, hK, hap, hsc⟩ := hA
  simp only [okE, Bool.and_eq_true] at hk
  obtain ⟨⟨hd, hn1⟩, he⟩ := hk
  cases of_decide_eq_true he
  obtain ⟨y, st, rfl, h⟩ := popR_e h
  obtain ⟨h, h1, h2⟩ := stK_e h
  intro H locs la hP hS hl
  obtain ⟨hlen, lv, hv, hm⟩ := id hl
  exact lv_astore hx hb (of_decide_eq_true hd) hv (by omega) rfl (fun ls' hl' => by
    have w := hn _ _ _ _ _ h H locs ls' hP hS (lh_set hl hm hl' h2)
    rw [of_decide_eq_true hn1] at w
    exact w)
theorem s_lstore_n {x : Fin 4} (hA : Am p s m args c θ A mi sc) {a : Nat} {v : Int32} {ts : List Nat} {j : Nat} (hk : okE mi ps j (.lstore_n x, a, v, ts) = true) {ls : Lv} {st : List Value} {M : Mem} {o : Ou} {k : Nat} {nx : NX}
    (h : step (GA p l e R s m args below meth c Q θ A mi ps c0 s0) ret tho thr Cl sc (.lstore_n x) a v ts ls st M o k nx) (hn : ∀ ls st M o k, nx ls st M o k → GA p l e R s m args below meth c Q θ A mi ps c0 s0 (j + 1) ls st M o k) : GA p l e R s m args below meth c Q θ A mi ps c0 s0 j ls st M o k := by
  obtain ⟨hx, hb, hml, hown, hts, hK, hap, hsc⟩ := hA
  simp only [okE, Bool.and_eq_true] at hk
  obtain ⟨⟨hd, hn1⟩, he⟩ := hk
  obtain ⟨y, st, rfl, h⟩ := popL_e h
  obtain ⟨h, h1, h2⟩ := stK_e h
  obtain ⟨h, h3, h4⟩ := clK_e h
  intro H locs la hP hS hl
  obtain ⟨hlen, lv, hv, hm⟩ := id hl
  exact lv_lstore_n hx hb (of_decide_eq_true hd) (of_decide_eq_true he) hv (by omega) rfl (fun ls' hl' => by
    have w := hn _ _ _ _ _ h H locs ls' hP hS (lh_set2 hl hm hl' (by omega))
    rw [of_decide_eq_true hn1] at w
    exact w)
theorem s_lstore {x : Nat} (hA : Am p s m args c θ A mi sc) {a : Nat} {v : Int32} {ts : List Nat} {j : Nat} (hk : okE mi ps j (.lstore x, a, v, ts) = true) {ls : Lv} {st : List Value} {M : Mem} {o : Ou} {k : Nat} {nx : NX}
    (h : step (GA p l e R s m args below meth c Q θ A mi ps c0 s0) ret tho thr Cl sc (.lstore x) a v ts ls st M o k nx) (hn : ∀ ls st M o k, nx ls st M o k → GA p l e R s m args below meth c Q θ A mi ps c0 s0 (j + 1) ls st M o k) : GA p l e R s m args below meth c Q θ A mi ps c0 s0 j ls st M o k := by
  obtain ⟨hx, hb, hml, hown, hts, hK, hap, hsc⟩ := hA
  simp only [okE, Bool.and_eq_true] at hk
  obtain ⟨⟨hd, hn1⟩, he⟩ := hk
  cases of_decide_eq_true he
  obtain ⟨y, st, rfl, h⟩ := popL_e h
  obtain ⟨h, h1, h2⟩ := stK_e h
  obtain ⟨h, h3, h4⟩ := clK_e h
  intro H locs la hP hS hl
  obtain ⟨hlen, lv, hv, hm⟩ := id hl
  exact lv_lstore hx hb (of_decide_eq_true hd) hv (by omega) rfl (fun ls' hl' => by
    have w := hn _ _ _ _ _ h H locs ls' hP hS (lh_set2 hl hm hl' (by omega))
    rw [of_decide_eq_true hn1] at w
    exact w)
theorem s_iinc {x : Nat} {n : Int} (hA : Am p s m args c θ A mi sc) {a : Nat} {v : Int32} {ts : List Nat} {j : Nat} (hk : okE mi ps j (.iinc x n, a, v, ts) = true) {ls : Lv} {st : List Value} {M : Mem} {o : Ou} {k : Nat} {nx : NX}
    (h : step (GA p l e R s m args below meth c Q θ A mi ps c0 s0) ret tho thr Cl sc (.iinc x n) a v ts ls st M o k nx) (hn : ∀ ls st M o k, nx ls st M o k → GA p l e R s m args below meth c Q θ A mi ps c0 s0 (j + 1) ls st M o k) : GA p l e R s m args below meth c Q θ A mi ps c0 s0 j ls st M o k := by
  obtain ⟨hx, hb, hml, hown, hts, hK, hap, hsc⟩ := hA
  simp only [okE, Bool.and_eq_true] at hk
  obtain ⟨⟨⟨hd, hn1⟩, he⟩, hv0⟩ := hk
  cases of_decide_eq_true he
  obtain ⟨y, hy, h⟩ := ldI_e h
  obtain ⟨h, h1, h2⟩ := stK_e h
  intro H locs la hP hS hl
  obtain ⟨hlen, lv, hv, hm⟩ := id hl
  obtain ⟨q, hq⟩ := List.getElem?_of_mem (hm _ _ hy)
  exact lv_iinc (x := y) hx hb (of_decide_eq_true hd) hv (k := q) hq (by rw [of_decide_eq_true hv0]) (by omega) rfl (fun ls' hl' => by
    have w := hn _ _ _ _ _ h H locs ls' hP hS (lh_set hl hm hl' h2)
    rw [of_decide_eq_true hn1] at w
    exact w)
theorem s_iconst {n : Int} (hA : Am p s m args c θ A mi sc) {a : Nat} {v : Int32} {ts : List Nat} {j : Nat} (hk : okE mi ps j (.iconst n, a, v, ts) = true) {ls : Lv} {st : List Value} {M : Mem} {o : Ou} {k : Nat} {nx : NX}
    (h : step (GA p l e R s m args below meth c Q θ A mi ps c0 s0) ret tho thr Cl sc (.iconst n) a v ts ls st M o k nx) (hn : ∀ ls st M o k, nx ls st M o k → GA p l e R s m args below meth c Q θ A mi ps c0 s0 (j + 1) ls st M o k) : GA p l e R s m args below meth c Q θ A mi ps c0 s0 j ls st M o k := by
  obtain ⟨hx, hb, hml, hown, hts, hK, hap, hsc⟩ := hA
  simp only [okE, Bool.and_eq_true] at hk
  obtain ⟨⟨hd, hn1⟩, he⟩ := hk
  intro H locs la hP hS hl
  have w := hn _ _ _ _ _ h H locs la hP hS hl
  rw [of_decide_eq_true hn1] at w
  exact lv_iconst hx hb (of_decide_eq_true hd) (of_decide_eq_true he) w
theorem s_bipush {n : Int} (hA : Am p s m args c θ A mi sc) {a : Nat} {v : Int32} {ts : List Nat} {j : Nat} (hk : okE mi ps j (.bipush n, a, v, ts) = true) {ls : Lv} {st : List Value} {M : Mem} {o : Ou} {k : Nat} {nx : NX}
    (h : step (GA p l e R s m args below meth c Q θ A mi ps c0 s0) ret tho thr Cl sc (.bipush n) a v ts ls st M o k nx) (hn : ∀ ls st M o k, nx ls st M o k → GA p l e R s m args below meth c Q θ A mi ps c0 s0 (j + 1) ls st M o k) : GA p l e R s m args below meth c Q θ A mi ps c0 s0 j ls st M o k := by
  obtain ⟨hx, hb, hml, hown, hts, hK, hap, hsc⟩ := hA
  simp only [okE, Bool.and_eq_true] at hk
  obtain ⟨⟨hd, hn1⟩, he⟩ := hk
  intro H locs la hP hS hl
  have w := hn _ _ _ _ _ h H locs la hP hS hl
  rw [of_decide_eq_true hn1] at w
  exact lv_bipush hx hb (of_decide_eq_true hd) (of_decide_eq_true he) w
theorem s_sipush {n : Int} (hA : Am p s m args c θ A mi sc) {a : Nat} {v : Int32} {ts : List Nat} {j : Nat} (hk : okE mi ps j (.sipush n, a, v, ts) = true) {ls : Lv} {st : List Value} {M : Mem} {o : Ou} {k : Nat} {nx : NX}
    (h : step (GA p l e R s m args below meth c Q θ A mi ps c0 s0) ret tho thr Cl sc (.sipush n) a v ts ls st M o k nx) (hn : ∀ ls st M o k, nx ls st M o k → GA p l e R s m args below meth c Q θ A mi ps c0 s0 (j + 1) ls st M o k) : GA p l e R s m args below meth c Q θ A mi ps c0 s0 j ls st M o k := by
  obtain ⟨hx, hb, hml, hown, hts, hK, hap, hsc⟩ := hA
  simp only [okE, Bool.and_eq_true] at hk
  obtain ⟨⟨hd, hn1⟩, he⟩ := hk
  intro H locs la hP hS hl
  have w := hn _ _ _ _ _ h H locs la hP hS hl
  rw [of_decide_eq_true hn1] at w
  exact lv_sipush hx hb (of_decide_eq_true hd) (of_decide_eq_true he) w
theorem s_ldc {n : Nat} (hA : Am p s m args c θ A mi sc) {a : Nat} {v : Int32} {ts : List Nat} {j : Nat} (hk : okE mi ps j (.ldc n, a, v, ts) = true) {ls : Lv} {st : List Value} {M : Mem} {o : Ou} {k : Nat} {nx : NX}
    (h : step (GA p l e R s m args below meth c Q θ A mi ps c0 s0) ret tho thr Cl sc (.ldc n) a v ts ls st M o k nx) (hn : ∀ ls st M o k, nx ls st M o k → GA p l e R s m args below meth c Q θ A mi ps c0 s0 (j + 1) ls st M o k) : GA p l e R s m args below meth c Q θ A mi ps c0 s0 j ls st M o k := by
  obtain ⟨hx, hb, hml, hown, hts, hK, hap, hsc⟩ := hA
  simp only [okE, Bool.and_eq_true] at hk
  obtain ⟨⟨hd, hn1⟩, he⟩ := hk
  intro H locs la hP hS hl
  have w := hn _ _ _ _ _ h H locs la hP hS hl
  rw [of_decide_eq_true hn1] at w
  exact lv_ldc hx hb hown (hts _ (gw_of (of_decide_eq_true he) rfl)) (of_decide_eq_true hd) w
theorem s_ldc2_w {n : Nat} (hA : Am p s m args c θ A mi sc) {a : Nat} {v : Int32} {ts : List Nat} {j : Nat} (hk : okE mi ps j (.ldc2_w n, a, v, ts) = true) {ls : Lv} {st : List Value} {M : Mem} {o : Ou} {k : Nat} {nx : NX}
    (h : step (GA p l e R s m args below meth c Q θ A mi ps c0 s0) ret tho thr Cl sc (.ldc2_w n) a v ts ls st M o k nx) (hn : ∀ ls st M o k, nx ls st M o k → GA p l e R s m args below meth c Q θ A mi ps c0 s0 (j + 1) ls st M o k) : GA p l e R s m args below meth c Q θ A mi ps c0 s0 j ls st M o k := by
  obtain ⟨hx, hb, hml, hown, hts, hK, hap, hsc⟩ := hA
  simp only [okE, Bool.and_eq_true] at hk
  obtain ⟨⟨hd, hn1⟩, he⟩ := hk
  intro H locs la hP hS hl
  have w := hn _ _ _ _ _ h H locs la hP hS hl
  rw [of_decide_eq_true hn1] at w
  exact lv_ldc2 hx hb hown (hts _ (gw_of (of_decide_eq_true he) rfl)) (of_decide_eq_true hd) w
theorem s_lconst {x : Fin 2} (hA : Am p s m args c θ A mi sc) {a : Nat} {v : Int32} {ts : List Nat} {j : Nat} (hk : okE mi ps j (.lconst x, a, v, ts) = true) {ls : Lv} {st : List Value} {M : Mem} {o : Ou} {k : Nat} {nx : NX}
    (h : step (GA p l e R s m args below meth c Q θ A mi ps c0 s0) ret tho thr Cl sc (.lconst x) a v ts ls st M o k nx) (hn : ∀ ls st M o k, nx ls st M o k → GA p l e R s m args below meth c Q θ A mi ps c0 s0 (j + 1) ls st M o k) : GA p l e R s m args below meth c Q θ A mi ps c0 s0 j ls st M o k := by
  obtain ⟨hx, hb, hml, hown, hts, hK, hap, hsc⟩ := hA
  simp only [okE, Bool.and_eq_true] at hk
  obtain ⟨⟨hd, hn1⟩, he⟩ := hk
  have he := of_decide_eq_true he
  intro H locs la hP hS hl
  match x, hd, he, h with
  | 0, hd, he, h =>
    cases he
    have w := hn _ _ _ _ _ h H locs la hP hS hl
    rw [of_decide_eq_true hn1] at w
    exact lv_lconst hx hb (of_decide_eq_true hd) rfl w
  | 1, hd, he, h =>
    cases he
    have w := hn _ _ _ _ _ h H locs la hP hS hl
    rw [of_decide_eq_true hn1] at w
    exact lv_lconst hx hb (of_decide_eq_true hd) rfl w
theorem s_iadd (hA : Am p s m args c θ A mi sc) {a : Nat} {v : Int32} {ts : List Nat} {j : Nat} (hk : okE mi ps j (.iadd, a, v, ts) = true) {ls : Lv} {st : List Value} {M : Mem} {o : Ou} {k : Nat} {nx : NX}
    (h : step (GA p l e R s m args below meth c Q θ A mi ps c0 s0) ret tho thr Cl sc (.iadd) a v ts ls st M o k nx) (hn : ∀ ls st M o k, nx ls st M o k → GA p l e R s m args below meth c Q θ A mi ps c0 s0 (j + 1) ls st M o k) : GA p l e R s m args below meth c Q θ A mi ps c0 s0 j ls st M o k := by
  obtain ⟨hx, hb, hml, hown, hts, hK, hap, hsc⟩ := hA
  simp only [okE, Bool.and_eq_true] at hk
  obtain ⟨hd, hn1⟩ := hk
  obtain ⟨y, st, rfl, h⟩ := popI_e h
  obtain ⟨x, st, rfl, h⟩ := popI_e h
  intro H locs la hP hS hl
  have w := hn _ _ _ _ _ h H locs la hP hS hl
  rw [of_decide_eq_true hn1] at w
  exact lv_iadd hx hb (of_decide_eq_true hd) w
theorem s_isub (hA : Am p s m args c θ A mi sc) {a : Nat} {v : Int32} {ts : List Nat} {j : Nat} (hk : okE mi ps j (.isub, a, v, ts) = true) {ls : Lv} {st : List Value} {M : Mem} {o : Ou} {k : Nat} {nx : NX}
    (h : step (GA p l e R s m args below meth c Q θ A mi ps c0 s0) ret tho thr Cl sc (.isub) a v ts ls st M o k nx) (hn : ∀ ls st M o k, nx ls st M o k → GA p l e R s m args below meth c Q θ A mi ps c0 s0 (j + 1) ls st M o k) : GA p l e R s m args below meth c Q θ A mi ps c0 s0 j ls st M o k := by
  obtain ⟨hx, hb, hml, hown, hts, hK, hap, hsc⟩ := hA
  simp only [okE, Bool.and_eq_true] at hk
  obtain ⟨hd, hn1⟩ := hk
  obtain ⟨y, st, rfl, h⟩ := popI_e h
  obtain ⟨x, st, rfl, h⟩ := popI_e h
  intro H locs la hP hS hl
  have w := hn _ _ _ _ _ h H locs la hP hS hl
  rw [of_decide_eq_true hn1] at w
  exact lv_isub hx hb (of_decide_eq_true hd) w
theorem s_imul (hA : Am p s m args c θ A mi sc) {a : Nat} {v : Int32} {ts : List Nat} {j : Nat} (hk : okE mi ps j (.imul, a, v, ts) = true) {ls : Lv} {st : List Value} {M : Mem} {o : Ou} {k : Nat} {nx : NX}
    (h : step (GA p l e R s m args below meth c Q θ A mi ps c0 s0) ret tho thr Cl sc (.imul) a v ts ls st M o k nx) (hn : ∀ ls st M o k, nx ls st M o k → GA p l e R s m args below meth c Q θ A mi ps c0 s0 (j + 1) ls st M o k) : GA p l e R s m args below meth c Q θ A mi ps c0 s0 j ls st M o k := by
  obtain ⟨hx, hb, hml, hown, hts, hK, hap, hsc⟩ := hA
  simp only [okE, Bool.and_eq_true] at hk
  obtain ⟨hd, hn1⟩ := hk
  obtain ⟨y, st, rfl, h⟩ := popI_e h
  obtain ⟨x, st, rfl, h⟩ := popI_e h
  intro H locs la hP hS hl
  have w := hn _ _ _ _ _ h H locs la hP hS hl
  rw [of_decide_eq_true hn1] at w
  exact lv_imul hx hb (of_decide_eq_true hd) w
theorem s_iand (hA : Am p s m args c θ A mi sc) {a : Nat} {v : Int32} {ts : List Nat} {j : Nat} (hk : okE mi ps j (.iand, a, v, ts) = true) {ls : Lv} {st : List Value} {M : Mem} {o : Ou} {k : Nat} {nx : NX}
    (h : step (GA p l e R s m args below meth c Q θ A mi ps c0 s0) ret tho thr Cl sc (.iand) a v ts ls st M o k nx) (hn : ∀ ls st M o k, nx ls st M o k → GA p l e R s m args below meth c Q θ A mi ps c0 s0 (j + 1) ls st M o k) : GA p l e R s m args below meth c Q θ A mi ps c0 s0 j ls st M o k := by
  obtain ⟨hx, hb, hml, hown, hts, hK, hap, hsc⟩ := hA
  simp only [okE, Bool.and_eq_true] at hk
  obtain ⟨hd, hn1⟩ := hk
  obtain ⟨y, st, rfl, h⟩ := popI_e h
  obtain ⟨x, st, rfl, h⟩ := popI_e h
  intro H locs la hP hS hl
  have w := hn _ _ _ _ _ h H locs la hP hS hl
  rw [of_decide_eq_true hn1] at w
  exact lv_iand hx hb (of_decide_eq_true hd) w
theorem s_idiv (hA : Am p s m args c θ A mi sc) {a : Nat} {v : Int32} {ts : List Nat} {j : Nat} (hk : okE mi ps j (.idiv, a, v, ts) = true) {ls : Lv} {st : List Value} {M : Mem} {o : Ou} {k : Nat} {nx : NX}
    (h : step (GA p l e R s m args below meth c Q θ A mi ps c0 s0) ret tho thr Cl sc (.idiv) a v ts ls st M o k nx) (hn : ∀ ls st M o k, nx ls st M o k → GA p l e R s m args below meth c Q θ A mi ps c0 s0 (j + 1) ls st M o k) : GA p l e R s m args below meth c Q θ A mi ps c0 s0 j ls st M o k := by
  obtain ⟨hx, hb, hml, hown, hts, hK, hap, hsc⟩ := hA
  simp only [okE, Bool.and_eq_true] at hk
  obtain ⟨hd, hn1⟩ := hk
  obtain ⟨y, st, rfl, h⟩ := popI_e h
  obtain ⟨x, st, rfl, hne, h⟩ := popI_e h
  intro H locs la hP hS hl
  have w := hn _ _ _ _ _ h H locs la hP hS hl
  rw [of_decide_eq_true hn1] at w
  exact lv_idiv hx hb (of_decide_eq_true hd) hne w
theorem s_irem (hA : Am p s m args c θ A mi sc) {a : Nat} {v : Int32} {ts : List Nat} {j : Nat} (hk : okE mi ps j (.irem, a, v, ts) = true) {ls : Lv} {st : List Value} {M : Mem} {o : Ou} {k : Nat} {nx : NX}
    (h : step (GA p l e R s m args below meth c Q θ A mi ps c0 s0) ret tho thr Cl sc (.irem) a v ts ls st M o k nx) (hn : ∀ ls st M o k, nx ls st M o k → GA p l e R s m args below meth c Q θ A mi ps c0 s0 (j + 1) ls st M o k) : GA p l e R s m args below meth c Q θ A mi ps c0 s0 j ls st M o k := by
  obtain ⟨hx, hb, hml, hown, hts, hK, hap, hsc⟩ := hA
  simp only [okE, Bool.and_eq_true] at hk
  obtain ⟨hd, hn1⟩ := hk
  obtain ⟨y, st, rfl, h⟩ := popI_e h
  obtain ⟨x, st, rfl, hne, h⟩ := popI_e h
  intro H locs la hP hS hl
  have w := hn _ _ _ _ _ h H locs la hP hS hl
  rw [of_decide_eq_true hn1] at w
  exact lv_irem hx hb (of_decide_eq_true hd) hne w
theorem s_ladd (hA : Am p s m args c θ A mi sc) {a : Nat} {v : Int32} {ts : List Nat} {j : Nat} (hk : okE mi ps j (.ladd, a, v, ts) = true) {ls : Lv} {st : List Value} {M : Mem} {o : Ou} {k : Nat} {nx : NX}
    (h : step (GA p l e R s m args below meth c Q θ A mi ps c0 s0) ret tho thr Cl sc (.ladd) a v ts ls st M o k nx) (hn : ∀ ls st M o k, nx ls st M o k → GA p l e R s m args below meth c Q θ A mi ps c0 s0 (j + 1) ls st M o k) : GA p l e R s m args below meth c Q θ A mi ps c0 s0 j ls st M o k := by
  obtain ⟨hx, hb, hml, hown, hts, hK, hap, hsc⟩ := hA
  simp only [okE, Bool.and_eq_true] at hk
  obtain ⟨hd, hn1⟩ := hk
  obtain ⟨y, st, rfl, h⟩ := popL_e h
  obtain ⟨x, st, rfl, h⟩ := popL_e h
  intro H locs la hP hS hl
  have w := hn _ _ _ _ _ h H locs la hP hS hl
  rw [of_decide_eq_true hn1] at w
  exact lv_ladd hx hb (of_decide_eq_true hd) w
theorem s_lsub (hA : Am p s m args c θ A mi sc) {a : Nat} {v : Int32} {ts : List Nat} {j : Nat} (hk : okE mi ps j (.lsub, a, v, ts) = true) {ls : Lv} {st : List Value} {M : Mem} {o : Ou} {k : Nat} {nx : NX}
    (h : step (GA p l e R s m args below meth c Q θ A mi ps c0 s0) ret tho thr Cl sc (.lsub) a v ts ls st M o k nx) (hn : ∀ ls st M o k, nx ls st M o k → GA p l e R s m args below meth c Q θ A mi ps c0 s0 (j + 1) ls st M o k) : GA p l e R s m args below meth c Q θ A mi ps c0 s0 j ls st M o k := by
  obtain ⟨hx, hb, hml, hown, hts, hK, hap, hsc⟩ := hA
  simp only [okE, Bool.and_eq_true] at hk
  obtain ⟨hd, hn1⟩ := hk
  obtain ⟨y, st, rfl, h⟩ := popL_e h
  obtain ⟨x, st, rfl, h⟩ := popL_e h
  intro H locs la hP hS hl
  have w := hn _ _ _ _ _ h H locs la hP hS hl
  rw [of_decide_eq_true hn1] at w
  exact lv_lsub hx hb (of_decide_eq_true hd) w
theorem s_lmul (hA : Am p s m args c θ A mi sc) {a : Nat} {v : Int32} {ts : List Nat} {j : Nat} (hk : okE mi ps j (.lmul, a, v, ts) = true) {ls : Lv} {st : List Value} {M : Mem} {o : Ou} {k : Nat} {nx : NX}
    (h : step (GA p l e R s m args below meth c Q θ A mi ps c0 s0) ret tho thr Cl sc (.lmul) a v ts ls st M o k nx) (hn : ∀ ls st M o k, nx ls st M o k → GA p l e R s m args below meth c Q θ A mi ps c0 s0 (j + 1) ls st M o k) : GA p l e R s m args below meth c Q θ A mi ps c0 s0 j ls st M o k := by
  obtain ⟨hx, hb, hml, hown, hts, hK, hap, hsc⟩ := hA
  simp only [okE, Bool.and_eq_true] at hk
  obtain ⟨hd, hn1⟩ := hk
  obtain ⟨y, st, rfl, h⟩ := popL_e h
  obtain ⟨x, st, rfl, h⟩ := popL_e h
  intro H locs la hP hS hl
  have w := hn _ _ _ _ _ h H locs la hP hS hl
  rw [of_decide_eq_true hn1] at w
  exact lv_lmul hx hb (of_decide_eq_true hd) w
theorem s_land (hA : Am p s m args c θ A mi sc) {a : Nat} {v : Int32} {ts : List Nat} {j : Nat} (hk : okE mi ps j (.land, a, v, ts) = true) {ls : Lv} {st : List Value} {M : Mem} {o : Ou} {k : Nat} {nx : NX}
    (h : step (GA p l e R s m args below meth c Q θ A mi ps c0 s0) ret tho thr Cl sc (.land) a v ts ls st M o k nx) (hn : ∀ ls st M o k, nx ls st M o k → GA p l e R s m args below meth c Q θ A mi ps c0 s0 (j + 1) ls st M o k) : GA p l e R s m args below meth c Q θ A mi ps c0 s0 j ls st M o k := by
  obtain ⟨hx, hb, hml, hown, hts, hK, hap, hsc⟩ := hA
  simp only [okE, Bool.and_eq_true] at hk
  obtain ⟨hd, hn1⟩ := hk
  obtain ⟨y, st, rfl, h⟩ := popL_e h
  obtain ⟨x, st, rfl, h⟩ := popL_e h
  intro H locs la hP hS hl
  have w := hn _ _ _ _ _ h H locs la hP hS hl
  rw [of_decide_eq_true hn1] at w
  exact lv_land hx hb (of_decide_eq_true hd) w
theorem s_lcmp (hA : Am p s m args c θ A mi sc) {a : Nat} {v : Int32} {ts : List Nat} {j : Nat} (hk : okE mi ps j (.lcmp, a, v, ts) = true) {ls : Lv} {st : List Value} {M : Mem} {o : Ou} {k : Nat} {nx : NX}
    (h : step (GA p l e R s m args below meth c Q θ A mi ps c0 s0) ret tho thr Cl sc (.lcmp) a v ts ls st M o k nx) (hn : ∀ ls st M o k, nx ls st M o k → GA p l e R s m args below meth c Q θ A mi ps c0 s0 (j + 1) ls st M o k) : GA p l e R s m args below meth c Q θ A mi ps c0 s0 j ls st M o k := by
  obtain ⟨hx, hb, hml, hown, hts, hK, hap, hsc⟩ := hA
  simp only [okE, Bool.and_eq_true] at hk
  obtain ⟨hd, hn1⟩ := hk
  obtain ⟨y, st, rfl, h⟩ := popL_e h
  obtain ⟨x, st, rfl, h⟩ := popL_e h
  intro H locs la hP hS hl
  have w := hn _ _ _ _ _ h H locs la hP hS hl
  rw [of_decide_eq_true hn1] at w
  exact W.lcmp hx hb (of_decide_eq_true hd) w
theorem s_lrem (hA : Am p s m args c θ A mi sc) {a : Nat} {v : Int32} {ts : List Nat} {j : Nat} (hk : okE mi ps j (.lrem, a, v, ts) = true) {ls : Lv} {st : List Value} {M : Mem} {o : Ou} {k : Nat} {nx : NX}
    (h : step (GA p l e R s m args below meth c Q θ A mi ps c0 s0) ret tho thr Cl sc (.lrem) a v ts ls st M o k nx) (hn : ∀ ls st M o k, nx ls st M o k → GA p l e R s m args below meth c Q θ A mi ps c0 s0 (j + 1) ls st M o k) : GA p l e R s m args below meth c Q θ A mi ps c0 s0 j ls st M o k := by
  obtain ⟨hx, hb, hml, hown, hts, hK, hap, hsc⟩ := hA
  simp only [okE, Bool.and_eq_true] at hk
  obtain ⟨hd, hn1⟩ := hk
  obtain ⟨y, st, rfl, h⟩ := popL_e h
  obtain ⟨x, st, rfl, hne, h⟩ := popL_e h
  intro H locs la hP hS hl
  have w := hn _ _ _ _ _ h H locs la hP hS hl
  rw [of_decide_eq_true hn1] at w
  exact lv_lrem hx hb (of_decide_eq_true hd) hne w
theorem s_i2l (hA : Am p s m args c θ A mi sc) {a : Nat} {v : Int32} {ts : List Nat} {j : Nat} (hk : okE mi ps j (.i2l, a, v, ts) = true) {ls : Lv} {st : List Value} {M : Mem} {o : Ou} {k : Nat} {nx : NX}
    (h : step (GA p l e R s m args below meth c Q θ A mi ps c0 s0) ret tho thr Cl sc (.i2l) a v ts ls st M o k nx) (hn : ∀ ls st M o k, nx ls st M o k → GA p l e R s m args below meth c Q θ A mi ps c0 s0 (j + 1) ls st M o k) : GA p l e R s m args below meth c Q θ A mi ps c0 s0 j ls st M o k := by
  obtain ⟨hx, hb, hml, hown, hts, hK, hap, hsc⟩ := hA
  simp only [okE, Bool.and_eq_true] at hk
  obtain ⟨hd, hn1⟩ := hk
  obtain ⟨y, st, rfl, h⟩ := popI_e h
  intro H locs la hP hS hl
  have w := hn _ _ _ _ _ h H locs la hP hS hl
  rw [of_decide_eq_true hn1] at w
  exact lv_i2l hx hb (of_decide_eq_true hd) rfl w
theorem s_l2i (hA : Am p s m args c θ A mi sc) {a : Nat} {v : Int32} {ts : List Nat} {j : Nat} (hk : okE mi ps j (.l2i, a, v, ts) = true) {ls : Lv} {st : List Value} {M : Mem} {o : Ou} {k : Nat} {nx : NX}
    (h : step (GA p l e R s m args below meth c Q θ A mi ps c0 s0) ret tho thr Cl sc (.l2i) a v ts ls st M o k nx) (hn : ∀ ls st M o k, nx ls st M o k → GA p l e R s m args below meth c Q θ A mi ps c0 s0 (j + 1) ls st M o k) : GA p l e R s m args below meth c Q θ A mi ps c0 s0 j ls st M o k := by
  obtain ⟨hx, hb, hml, hown, hts, hK, hap, hsc⟩ := hA
  simp only [okE, Bool.and_eq_true] at hk
  obtain ⟨hd, hn1⟩ := hk
  obtain ⟨y, st, rfl, h⟩ := popL_e h
  intro H locs la hP hS hl
  have w := hn _ _ _ _ _ h H locs la hP hS hl
  rw [of_decide_eq_true hn1] at w
  exact lv_l2i hx hb (of_decide_eq_true hd) rfl w
theorem s_dup (hA : Am p s m args c θ A mi sc) {a : Nat} {v : Int32} {ts : List Nat} {j : Nat} (hk : okE mi ps j (.dup, a, v, ts) = true) {ls : Lv} {st : List Value} {M : Mem} {o : Ou} {k : Nat} {nx : NX}
    (h : step (GA p l e R s m args below meth c Q θ A mi ps c0 s0) ret tho thr Cl sc (.dup) a v ts ls st M o k nx) (hn : ∀ ls st M o k, nx ls st M o k → GA p l e R s m args below meth c Q θ A mi ps c0 s0 (j + 1) ls st M o k) : GA p l e R s m args below meth c Q θ A mi ps c0 s0 j ls st M o k := by
  obtain ⟨hx, hb, hml, hown, hts, hK, hap, hsc⟩ := hA
  simp only [okE, Bool.and_eq_true] at hk
  obtain ⟨hd, hn1⟩ := hk
  simp only [step] at h
  intro H locs la hP hS hl
  split at h
  · have w := hn _ _ _ _ _ h H locs la hP hS hl
    rw [of_decide_eq_true hn1] at w
    exact lv_dup hx hb (of_decide_eq_true hd) rfl w
  · have w := hn _ _ _ _ _ h H locs la hP hS hl
    rw [of_decide_eq_true hn1] at w
    exact lv_dup hx hb (of_decide_eq_true hd) rfl w
  · exact h.elim
theorem s_dup2 (hA : Am p s m args c θ A mi sc) {a : Nat} {v : Int32} {ts : List Nat} {j : Nat} (hk : okE mi ps j (.dup2, a, v, ts) = true) {ls : Lv} {st : List Value} {M : Mem} {o : Ou} {k : Nat} {nx : NX}
    (h : step (GA p l e R s m args below meth c Q θ A mi ps c0 s0) ret tho thr Cl sc (.dup2) a v ts ls st M o k nx) (hn : ∀ ls st M o k, nx ls st M o k → GA p l e R s m args below meth c Q θ A mi ps c0 s0 (j + 1) ls st M o k) : GA p l e R s m args below meth c Q θ A mi ps c0 s0 j ls st M o k := by
  obtain ⟨hx, hb, hml, hown, hts, hK, hap, hsc⟩ := hA
  simp only [okE, Bool.and_eq_true] at hk
  obtain ⟨hd, hn1⟩ := hk
  obtain ⟨y, st, rfl, h⟩ := popI_e h
  obtain ⟨x, st, rfl, h⟩ := popR_e h
  intro H locs la hP hS hl
  have w := hn _ _ _ _ _ h H locs la hP hS hl
  rw [of_decide_eq_true hn1] at w
  exact lv_dup2_11 hx hb (of_decide_eq_true hd) rfl rfl w
theorem s_if_icmp {cc : Jvm.ClassFile.Cond} {off : Int} (hA : Am p s m args c θ A mi sc) {a : Nat} {v : Int32} {ts : List Nat} {j : Nat} (hk : okE mi ps j (.if_icmp cc off, a, v, ts) = true) {ls : Lv} {st : List Value} {M : Mem} {o : Ou} {k : Nat} {nx : NX}
    (h : step (GA p l e R s m args below meth c Q θ A mi ps c0 s0) ret tho thr Cl sc (.if_icmp cc off) a v ts ls st M o k nx) (hn : ∀ ls st M o k, nx ls st M o k → GA p l e R s m args below meth c Q θ A mi ps c0 s0 (j + 1) ls st M o k) : GA p l e R s m args below meth c Q θ A mi ps c0 s0 j ls st M o k := by
  obtain ⟨hx, hb, hml, hown, hts, hK, hap, hsc⟩ := hA
  simp only [okE, Bool.and_eq_true] at hk
  obtain ⟨⟨hd, hn1⟩, ht⟩ := hk
  obtain ⟨y, st, rfl, h⟩ := popI_e h
  obtain ⟨x, st, rfl, h⟩ := popI_e h
  intro H locs la hP hS hl
  cases cc
  · obtain ⟨h1, h2⟩ := h
    refine lv_icmp_eq hx hb (of_decide_eq_true hd) (of_decide_eq_true ht) (fun q => h1 q H locs la hP hS hl) (fun q => ?_)
    have w := hn _ _ _ _ _ (h2 q) H locs la hP hS hl
    rw [of_decide_eq_true hn1] at w
    exact w
  · obtain ⟨h1, h2⟩ := h
    refine lv_icmp_ne hx hb (of_decide_eq_true hd) (of_decide_eq_true ht) (fun q => h1 q H locs la hP hS hl) (fun q => ?_)
    have w := hn _ _ _ _ _ (h2 q) H locs la hP hS hl
    rw [of_decide_eq_true hn1] at w
    exact w
  · obtain ⟨h1, h2⟩ := h
    refine lv_icmp_lt hx hb (of_decide_eq_true hd) (of_decide_eq_true ht) (fun q => h1 q H locs la hP hS hl) (fun q => ?_)
    have w := hn _ _ _ _ _ (h2 q) H locs la hP hS hl
    rw [of_decide_eq_true hn1] at w
    exact w
  · obtain ⟨h1, h2⟩ := h
    refine lv_icmp_ge hx hb (of_decide_eq_true hd) (of_decide_eq_true ht) (fun q => h1 q H locs la hP hS hl) (fun q => ?_)
    have w := hn _ _ _ _ _ (h2 q) H locs la hP hS hl
    rw [of_decide_eq_true hn1] at w
    exact w
  · obtain ⟨h1, h2⟩ := h
    refine lv_icmp_gt hx hb (of_decide_eq_true hd) (of_decide_eq_true ht) (fun q => h1 q H locs la hP hS hl) (fun q => ?_)
    have w := hn _ _ _ _ _ (h2 q) H locs la hP hS hl
    rw [of_decide_eq_true hn1] at w
    exact w
  · obtain ⟨h1, h2⟩ := h
    refine lv_icmp_le hx hb (of_decide_eq_true hd) (of_decide_eq_true ht) (fun q => h1 q H locs la hP hS hl) (fun q => ?_)
    have w := hn _ _ _ _ _ (h2 q) H locs la hP hS hl
    rw [of_decide_eq_true hn1] at w
    exact w
theorem s_ifCond {cc : Jvm.ClassFile.Cond} {off : Int} (hA : Am p s m args c θ A mi sc) {a : Nat} {v : Int32} {ts : List Nat} {j : Nat} (hk : okE mi ps j (.ifCond cc off, a, v, ts) = true) {ls : Lv} {st : List Value} {M : Mem} {o : Ou} {k : Nat} {nx : NX}
    (h : step (GA p l e R s m args below meth c Q θ A mi ps c0 s0) ret tho thr Cl sc (.ifCond cc off) a v ts ls st M o k nx) (hn : ∀ ls st M o k, nx ls st M o k → GA p l e R s m args below meth c Q θ A mi ps c0 s0 (j + 1) ls st M o k) : GA p l e R s m args below meth c Q θ A mi ps c0 s0 j ls st M o k := by
  obtain ⟨hx, hb, hml, hown, hts, hK, hap, hsc⟩ := hA
  simp only [okE, Bool.and_eq_true] at hk
  obtain ⟨⟨hd, hn1⟩, ht⟩ := hk
  obtain ⟨x, st, rfl, h⟩ := popI_e h
  intro H locs la hP hS hl
  cases cc
  · obtain ⟨h1, h2⟩ := h
    refine lv_if_eq hx hb (of_decide_eq_true hd) (of_decide_eq_true ht) (fun q => h1 q H locs la hP hS hl) (fun q => ?_)
    have w := hn _ _ _ _ _ (h2 q) H locs la hP hS hl
    rw [of_decide_eq_true hn1] at w
    exact w
  · obtain ⟨h1, h2⟩ := h
    refine lv_if_ne hx hb (of_decide_eq_true hd) (of_decide_eq_true ht) (fun q => h1 q H locs la hP hS hl) (fun q => ?_)
    have w := hn _ _ _ _ _ (h2 q) H locs la hP hS hl
    rw [of_decide_eq_true hn1] at w
    exact w
  · obtain ⟨h1, h2⟩ := h
    refine lv_if_lt hx hb (of_decide_eq_true hd) (of_decide_eq_true ht) (fun q => h1 q H locs la hP hS hl) (fun q => ?_)
    have w := hn _ _ _ _ _ (h2 q) H locs la hP hS hl
    rw [of_decide_eq_true hn1] at w
    exact w
  · obtain ⟨h1, h2⟩ := h
    refine lv_if_ge hx hb (of_decide_eq_true hd) (of_decide_eq_true ht) (fun q => h1 q H locs la hP hS hl) (fun q => ?_)
    have w := hn _ _ _ _ _ (h2 q) H locs la hP hS hl
    rw [of_decide_eq_true hn1] at w
    exact w
  · obtain ⟨h1, h2⟩ := h
    refine lv_if_gt hx hb (of_decide_eq_true hd) (of_decide_eq_true ht) (fun q => h1 q H locs la hP hS hl) (fun q => ?_)
    have w := hn _ _ _ _ _ (h2 q) H locs la hP hS hl
    rw [of_decide_eq_true hn1] at w
    exact w
  · obtain ⟨h1, h2⟩ := h
    refine lv_if_le hx hb (of_decide_eq_true hd) (of_decide_eq_true ht) (fun q => h1 q H locs la hP hS hl) (fun q => ?_)
    have w := hn _ _ _ _ _ (h2 q) H locs la hP hS hl
    rw [of_decide_eq_true hn1] at w
    exact w
theorem s_goto {off : Int} (hA : Am p s m args c θ A mi sc) {a : Nat} {v : Int32} {ts : List Nat} {j : Nat} (hk : okE mi ps j (.goto off, a, v, ts) = true) {ls : Lv} {st : List Value} {M : Mem} {o : Ou} {k : Nat} {nx : NX}
    (h : step (GA p l e R s m args below meth c Q θ A mi ps c0 s0) ret tho thr Cl sc (.goto off) a v ts ls st M o k nx) (hn : ∀ ls st M o k, nx ls st M o k → GA p l e R s m args below meth c Q θ A mi ps c0 s0 (j + 1) ls st M o k) : GA p l e R s m args below meth c Q θ A mi ps c0 s0 j ls st M o k := by
  obtain ⟨hx, hb, hml, hown, hts, hK, hap, hsc⟩ := hA
  simp only [okE, Bool.and_eq_true] at hk
  obtain ⟨hd, ht⟩ := hk
  intro H locs la hP hS hl
  exact lv_goto hx hb (of_decide_eq_true hd) (of_decide_eq_true ht) (h H locs la hP hS hl)
theorem s_nop (hA : Am p s m args c θ A mi sc) {a : Nat} {v : Int32} {ts : List Nat} {j : Nat} (hk : okE mi ps j (.nop, a, v, ts) = true) {ls : Lv} {st : List Value} {M : Mem} {o : Ou} {k : Nat} {nx : NX}
    (h : step (GA p l e R s m args below meth c Q θ A mi ps c0 s0) ret tho thr Cl sc (.nop) a v ts ls st M o k nx) (hn : ∀ ls st M o k, nx ls st M o k → GA p l e R s m args below meth c Q θ A mi ps c0 s0 (j + 1) ls st M o k) : GA p l e R s m args below meth c Q θ A mi ps c0 s0 j ls st M o k := by
  obtain ⟨hx, hb, hml, hown, hts, hK, hap, hsc⟩ := hA
  simp only [okE, Bool.and_eq_true] at hk
  intro H locs la hP hS hl
  have w := h H locs la hP hS hl
  rw [← of_decide_eq_true hk] at w
  exact w
theorem s_tableswitch {d lo hi : Int} {offs : Array Int} (hA : Am p s m args c θ A mi sc) {a : Nat} {v : Int32} {ts : List Nat} {j : Nat} (hk : okE mi ps j (.tableswitch d lo hi offs, a, v, ts) = true) {ls : Lv} {st : List Value} {M : Mem} {o : Ou} {k : Nat} {nx : NX}
    (h : step (GA p l e R s m args below meth c Q θ A mi ps c0 s0) ret tho thr Cl sc (.tableswitch d lo hi offs) a v ts ls st M o k nx) (hn : ∀ ls st M o k, nx ls st M o k → GA p l e R s m args below meth c Q θ A mi ps c0 s0 (j + 1) ls st M o k) : GA p l e R s m args below meth c Q θ A mi ps c0 s0 j ls st M o k := by
  obtain ⟨hx, hb, hml, hown, hts, hK, hap, hsc⟩ := hA
  simp only [okE, Bool.and_eq_true] at hk
  obtain ⟨⟨⟨⟨⟨hd, h1⟩, h2⟩, h3⟩, h4⟩, h5⟩ := hk
  have h5 : offs.size < 1000 := of_decide_eq_true h5
  obtain ⟨x, st, rfl, h⟩ := popI_e h
  intro H locs la hP hS hl
  rcases sw_e h4 (by simpa using h5) h with ⟨i, off, t, e1, e2, e3, hG⟩ | ⟨hno, hG⟩
  · have hi : i < offs.size := by have := (List.getElem?_eq_some_iff.mp e1).1; simpa using this
    have hxi : x.toInt = (i : Int) := by rw [e2, nI_toInt (by omega)]; simp
    refine lv_tableIn hx hb (of_decide_eq_true hd) (by rw [of_decide_eq_true h1, hxi]; omega) (by rw [of_decide_eq_true h2, hxi]; omega) (off := off) ?_ e3 (hG H locs la hP hS hl)
    rw [of_decide_eq_true h1, hxi]
    simpa using e1
  · refine lv_tableOut hx hb (of_decide_eq_true hd) ?_ (of_decide_eq_true h3) (hG H locs la hP hS hl)
    rw [of_decide_eq_true h1, of_decide_eq_true h2]
    rcases Int.lt_or_le x.toInt 0 with q | q
    · exact Or.inl q
    · rcases Int.lt_or_le ((offs.size : Int) - 1) x.toInt with q2 | q2
      · exact Or.inr q2
      · exfalso
        refine hno x.toInt.toNat (by rw [Array.length_toList]; omega) ?_
        apply Int32.toInt_inj.mp
        rw [Nat.zero_add, nI_toInt (by omega)]
        omega
theorem s_getfield {n : Nat} (hA : Am p s m args c θ A mi sc) {a : Nat} {v : Int32} {ts : List Nat} {j : Nat} (hk : okE mi ps j (.getfield n, a, v, ts) = true) {ls : Lv} {st : List Value} {M : Mem} {o : Ou} {k : Nat} {nx : NX}
    (h : step (GA p l e R s m args below meth c Q θ A mi ps c0 s0) ret tho thr Cl sc (.getfield n) a v ts ls st M o k nx) (hn : ∀ ls st M o k, nx ls st M o k → GA p l e R s m args below meth c Q θ A mi ps c0 s0 (j + 1) ls st M o k) : GA p l e R s m args below meth c Q θ A mi ps c0 s0 j ls st M o k := by
  obtain ⟨hx, hb, hml, hown, hts, hK, hap, hsc⟩ := hA
  simp only [okE, Bool.and_eq_true] at hk
  obtain ⟨⟨hd, hn1⟩, hf⟩ := hk
  have hf : (owT mi, n, ts.getD 0 0, a) ∈ FL := by simpa using hf
  obtain ⟨r, st, rfl, h⟩ := popR_e h
  obtain ⟨hc, h⟩ := cond_e h
  have hc : clT r = ts.getD 0 0 := Nat.eq_of_beq_eq_true hc
  obtain ⟨f1, f2⟩ := FL_lt _ hf
  dsimp only at f1 f2
  have hr : r < NO := clT_lt (by omega)
  obtain ⟨q, hq, h⟩ := nthK_e h
  intro H locs la hP hS hl
  have hlk := hts _ (FL_ok _ hf)
  rw [← hc] at f1 f2 hlk
  cases q with
  | zero =>
    have w := hn _ _ _ _ _ h H locs la hP hS hl
    rw [of_decide_eq_true hn1] at w
    exact va_get (v := .int (M r a)) hx hb hts (UW_ok _ f1) hown hK hP r ((wcs_get hr).trans (by rw [wc_obj f1])) (cls_ok _ f1) a f2 hlk (fun _ q => by rw [own_ok _ f1 a f2] at q; exact q) (by rw [sv_int hq, Nat.zero_add]) (of_decide_eq_true hd) w
  | succ t =>
    have w := hn _ _ _ _ _ h H locs la hP hS hl
    rw [of_decide_eq_true hn1] at w
    exact va_get (v := .ref (θ.1 t)) hx hb hts (UW_ok _ f1) hown hK hP r ((wcs_get hr).trans (by rw [wc_obj f1])) (cls_ok _ f1) a f2 hlk (fun _ q => by rw [own_ok _ f1 a f2] at q; exact q) (sv_ref hq) (of_decide_eq_true hd) w
theorem s_putfield {n : Nat} (hA : Am p s m args c θ A mi sc) {a : Nat} {v : Int32} {ts : List Nat} {j : Nat} (hk : okE mi ps j (.putfield n, a, v, ts) = true) {ls : Lv} {st : List Value} {M : Mem} {o : Ou} {k : Nat} {nx : NX}
    (h : step (GA p l e R s m args below meth c Q θ A mi ps c0 s0) ret tho thr Cl sc (.putfield n) a v ts ls st M o k nx) (hn : ∀ ls st M o k, nx ls st M o k → GA p l e R s m args below meth c Q θ A mi ps c0 s0 (j + 1) ls st M o k) : GA p l e R s m args below meth c Q θ A mi ps c0 s0 j ls st M o k := by
  obtain ⟨hx, hb, hml, hown, hts, hK, hap, hsc⟩ := hA
  simp only [okE, Bool.and_eq_true] at hk
  obtain ⟨⟨⟨⟨hd, hn1⟩, hf⟩, hfin⟩, hty⟩ := hk
  have hf : (owT mi, n, ts.getD 0 0, a) ∈ FL := by simpa using hf
  have hfin := of_decide_eq_true hfin
  have hty := of_decide_eq_true hty
  obtain ⟨x, st, rfl, h⟩ := popI_e h
  obtain ⟨r, st, rfl, h⟩ := popR_e h
  obtain ⟨hc, h⟩ := cond_e h
  have hc : clT r = ts.getD 0 0 := Nat.eq_of_beq_eq_true hc
  obtain ⟨f1, f2⟩ := FL_lt _ hf
  dsimp only at f1 f2
  have hr : r < NO := clT_lt (by omega)
  obtain ⟨q, hq, h⟩ := nthK_e h
  intro H locs la hP hS hl
  have hlk := hts _ (FL_ok _ hf)
  rw [← hc] at f1 f2 hlk hfin hty
  cases q with
  | succ t => exact h.elim
  | zero =>
    have key : ∀ ty, tyT (clT r) a = ty → narrow ty (.int x) = .int x → fits ty (.int x) = true → nx ls st (mset M r a x) o k → W p l e R s m args below meth c H locs (c0 + k) (s0 + 6 * k) Q (F0 m (ps.getD j 0) la (.int x :: .ref (θ.1 r) :: st.map (cv θ))) := by
      intro ty e1 e2 e3 h
      refine va_put hx hb hts (UW_ok _ f1) (tyT (clT r)) (ty_ok _ f1) (nm_ok _ f1) hown hK hP (hap.D M o) hS r ((wcs_get hr).trans (by rw [wc_obj f1])) (cls_ok _ f1) a f2 hlk (fun _ q => by rw [own_ok _ f1 a f2] at q; exact q) hfin (by rw [ty_ok _ f1 a f2, e1]) e2 e3 (by rw [sv_len, slT_len r hr f1]; exact f2) (of_decide_eq_true hd) (fun H1 locs1 hP1 hD1 hS1 => ?_)
      have e4 : (wcs θ M o).set r (θ.1 r, .inr (clT r, (sv θ M r 0 (slT r)).set a (.int x))) = wcs θ (mset M r a x) o := by
        refine wcs_set hr ?_ (fun i _ hi => wc_other hi)
        rw [wc_obj f1]
        have := sv_set (θ := θ) (M := M) (i := r) (v := x) (b := 0) hq
        rw [Nat.zero_add] at this
        rw [this]
      rw [e4] at hP1
      have w := hn _ _ _ _ _ h H1 locs1 la hP1 hS1 hl
      rw [of_decide_eq_true hn1] at w
      exact w
    cases hz : ts.getD 1 0 with
    | zero =>
      rw [hz] at hty
      simp only [hz] at h
      exact key .int hty rfl rfl h
    | succ z =>
      rw [hz] at hty
      simp only [hz] at h
      obtain ⟨hb01, h⟩ := h
      rcases hb01 with rfl | rfl
      · exact key .boolean hty (by decide) (by decide) h
      · exact key .boolean hty (by decide) (by decide) h
theorem s_iaload (hA : Am p s m args c θ A mi sc) {a : Nat} {v : Int32} {ts : List Nat} {j : Nat} (hk : okE mi ps j (.iaload, a, v, ts) = true) {ls : Lv} {st : List Value} {M : Mem} {o : Ou} {k : Nat} {nx : NX}
    (h : step (GA p l e R s m args below meth c Q θ A mi ps c0 s0) ret tho thr Cl sc (.iaload) a v ts ls st M o k nx) (hn : ∀ ls st M o k, nx ls st M o k → GA p l e R s m args below meth c Q θ A mi ps c0 s0 (j + 1) ls st M o k) : GA p l e R s m args below meth c Q θ A mi ps c0 s0 j ls st M o k := by
  obtain ⟨hx, hb, hml, hown, hts, hK, hap, hsc⟩ := hA
  simp only [okE, Bool.and_eq_true] at hk
  obtain ⟨hd, hn1⟩ := hk
  obtain ⟨q, st, rfl, h⟩ := popI_e h
  obtain ⟨r, st, rfl, h⟩ := popR_e h
  intro H locs la hP hS hl
  have h : cond (Nat.beq r SCR) (match sc.1 with | 0 => False | L + 1 => vp_in q L ∧ nx ls (.int (sc.2 q.toNatClampNeg) :: st) M o k) (cond (Nat.beq (clT r) 9) (vp_in q (lenT r) ∧ nx ls (.int (M r q.toNatClampNeg) :: st) M o k) False) := h
  cases hr : Nat.beq r SCR with
  | true =>
    have e1 : r = SCR := Nat.eq_of_beq_eq_true hr
    rw [hr] at h
    subst e1
    rcases hsc with h0 | ⟨L, hL, hX, hbl, hbA⟩
    · rw [h0] at h
      exact h.elim
    · rw [hL] at h
      obtain ⟨hin, h⟩ : vp_in q L ∧ nx ls (.int (sc.2 q.toNatClampNeg) :: st) M o k := h
      have w := hn _ _ _ _ _ h H locs la hP hS hl
      rw [of_decide_eq_true hn1] at w
      exact va_sld hx hb hX hbl hbA hS hin (of_decide_eq_true hd) w
  | false =>
    rw [hr] at h
    obtain ⟨hc, hin, h⟩ := cond_e (b := Nat.beq (clT r) 9) h
    have hc : clT r = 9 := Nat.eq_of_beq_eq_true hc
    have hr : r < NO := clT_lt (by omega)
    have w := hn _ _ _ _ _ h H locs la hP hS hl
    rw [of_decide_eq_true hn1] at w
    exact va_iald hx hb hK hP r 0 ((wcs_get hr).trans (by rw [wc_int hc])) rfl hin (of_decide_eq_true hd) w
theorem s_baload (hA : Am p s m args c θ A mi sc) {a : Nat} {v : Int32} {ts : List Nat} {j : Nat} (hk : okE mi ps j (.baload, a, v, ts) = true) {ls : Lv} {st : List Value} {M : Mem} {o : Ou} {k : Nat} {nx : NX}
    (h : step (GA p l e R s m args below meth c Q θ A mi ps c0 s0) ret tho thr Cl sc (.baload) a v ts ls st M o k nx) (hn : ∀ ls st M o k, nx ls st M o k → GA p l e R s m args below meth c Q θ A mi ps c0 s0 (j + 1) ls st M o k) : GA p l e R s m args below meth c Q θ A mi ps c0 s0 j ls st M o k := by
  obtain ⟨hx, hb, hml, hown, hts, hK, hap, hsc⟩ := hA
  simp only [okE, Bool.and_eq_true] at hk
  obtain ⟨hd, hn1⟩ := hk
  obtain ⟨q, st, rfl, h⟩ := popI_e h
  obtain ⟨r, st, rfl, h⟩ := popR_e h
  intro H locs la hP hS hl
  obtain ⟨hc, hin, h⟩ := cond_e h
  have hc : clT r = 10 := Nat.eq_of_beq_eq_true hc
  have hr : r < NO := clT_lt (by omega)
  have w := hn _ _ _ _ _ h H locs la hP hS hl
  rw [of_decide_eq_true hn1] at w
  exact va_zald hx hb hK hP r 1 ((wcs_get hr).trans (by rw [wc_bool hc])) rfl hin (of_decide_eq_true hd) w
theorem s_laload (hA : Am p s m args c θ A mi sc) {a : Nat} {v : Int32} {ts : List Nat} {j : Nat} (hk : okE mi ps j (.laload, a, v, ts) = true) {ls : Lv} {st : List Value} {M : Mem} {o : Ou} {k : Nat} {nx : NX}
    (h : step (GA p l e R s m args below meth c Q θ A mi ps c0 s0) ret tho thr Cl sc (.laload) a v ts ls st M o k nx) (hn : ∀ ls st M o k, nx ls st M o k → GA p l e R s m args below meth c Q θ A mi ps c0 s0 (j + 1) ls st M o k) : GA p l e R s m args below meth c Q θ A mi ps c0 s0 j ls st M o k := by
  obtain ⟨hx, hb, hml, hown, hts, hK, hap, hsc⟩ := hA
  simp only [okE, Bool.and_eq_true] at hk
  obtain ⟨hd, hn1⟩ := hk
  obtain ⟨q, st, rfl, h⟩ := popI_e h
  obtain ⟨r, st, rfl, h⟩ := popR_e h
  intro H locs la hP hS hl
  obtain ⟨hc, hin, h⟩ := cond_e h
  have hc : clT r = 11 := Nat.eq_of_beq_eq_true hc
  have hr : r < NO := clT_lt (by omega)
  have hro := clT_out r hr hc
  have w := hn _ _ _ _ _ h H locs la hP hS hl
  rw [of_decide_eq_true hn1] at w
  exact va_lald hx hb hK hP r 2 ((wcs_get hr).trans (by rw [wc_long hc])) rfl (by rw [hro]; exact hin) (of_decide_eq_true hd) w
theorem s_iastore (hA : Am p s m args c θ A mi sc) {a : Nat} {v : Int32} {ts : List Nat} {j : Nat} (hk : okE mi ps j (.iastore, a, v, ts) = true) {ls : Lv} {st : List Value} {M : Mem} {o : Ou} {k : Nat} {nx : NX}
    (h : step (GA p l e R s m args below meth c Q θ A mi ps c0 s0) ret tho thr Cl sc (.iastore) a v ts ls st M o k nx) (hn : ∀ ls st M o k, nx ls st M o k → GA p l e R s m args below meth c Q θ A mi ps c0 s0 (j + 1) ls st M o k) : GA p l e R s m args below meth c Q θ A mi ps c0 s0 j ls st M o k := by
  obtain ⟨hx, hb, hml, hown, hts, hK, hap, hsc⟩ := hA
  simp only [okE, Bool.and_eq_true] at hk
  obtain ⟨hd, hn1⟩ := hk
  obtain ⟨x, st, rfl, h⟩ := popI_e h
  obtain ⟨q, st, rfl, h⟩ := popI_e h
  obtain ⟨r, st, rfl, h⟩ := popR_e h
  intro H locs la hP hS hl
  obtain ⟨hc, hin, h⟩ := cond_e h
  have hc : clT r = 9 := Nat.eq_of_beq_eq_true hc
  have hr : r < NO := clT_lt (by omega)
  refine va_iast hx hb hK hP (hap.D M o) hS r 0 ((wcs_get hr).trans (by rw [wc_int hc])) rfl hin (of_decide_eq_true hd) (fun H1 locs1 hP1 hD1 hS1 => ?_)
  rw [wcs_set (M' := mset M r q.toNatClampNeg x) (o' := o) hr (by rw [wc_int hc, mset_row]) (fun i _ hi => wc_other hi)] at hP1
  have w := hn _ _ _ _ _ h H1 locs1 la hP1 hS1 hl
  rw [of_decide_eq_true hn1] at w
  exact w
theorem s_bastore (hA : Am p s m args c θ A mi sc) {a : Nat} {v : Int32} {ts : List Nat} {j : Nat} (hk : okE mi ps j (.bastore, a, v, ts) = true) {ls : Lv} {st : List Value} {M : Mem} {o : Ou} {k : Nat} {nx : NX}
    (h : step (GA p l e R s m args below meth c Q θ A mi ps c0 s0) ret tho thr Cl sc (.bastore) a v ts ls st M o k nx) (hn : ∀ ls st M o k, nx ls st M o k → GA p l e R s m args below meth c Q θ A mi ps c0 s0 (j + 1) ls st M o k) : GA p l e R s m args below meth c Q θ A mi ps c0 s0 j ls st M o k := by
  obtain ⟨hx, hb, hml, hown, hts, hK, hap, hsc⟩ := hA
  simp only [okE, Bool.and_eq_true] at hk
  obtain ⟨hd, hn1⟩ := hk
  obtain ⟨x, st, rfl, h⟩ := popI_e h
  obtain ⟨q, st, rfl, h⟩ := popI_e h
  obtain ⟨r, st, rfl, h⟩ := popR_e h
  intro H locs la hP hS hl
  obtain ⟨hc, hin, hz, h⟩ := cond_e h
  have hc : clT r = 10 := Nat.eq_of_beq_eq_true hc
  have hr : r < NO := clT_lt (by omega)
  have hnar : vp_nar .boolean x = x := by rcases hz with rfl | rfl <;> decide
  refine va_zast hx hb hK hP (hap.D M o) hS r 1 ((wcs_get hr).trans (by rw [wc_bool hc])) rfl hin (of_decide_eq_true hd) (fun H1 locs1 hP1 hD1 hS1 => ?_)
  rw [hnar, wcs_set (M' := mset M r q.toNatClampNeg x) (o' := o) hr (by rw [wc_bool hc, mset_row]) (fun i _ hi => wc_other hi)] at hP1
  have w := hn _ _ _ _ _ h H1 locs1 la hP1 hS1 hl
  rw [of_decide_eq_true hn1] at w
  exact w
theorem s_lastore (hA : Am p s m args c θ A mi sc) {a : Nat} {v : Int32} {ts : List Nat} {j : Nat} (hk : okE mi ps j (.lastore, a, v, ts) = true) {ls : Lv} {st : List Value} {M : Mem} {o : Ou} {k : Nat} {nx : NX}
    (h : step (GA p l e R s m args below meth c Q θ A mi ps c0 s0) ret tho thr Cl sc (.lastore) a v ts ls st M o k nx) (hn : ∀ ls st M o k, nx ls st M o k → GA p l e R s m args below meth c Q θ A mi ps c0 s0 (j + 1) ls st M o k) : GA p l e R s m args below meth c Q θ A mi ps c0 s0 j ls st M o k := by
  obtain ⟨hx, hb, hml, hown, hts, hK, hap, hsc⟩ := hA
  simp only [okE, Bool.and_eq_true] at hk
  obtain ⟨hd, hn1⟩ := hk
  obtain ⟨x, st, rfl, h⟩ := popL_e h
  obtain ⟨q, st, rfl, h⟩ := popI_e h
  obtain ⟨r, st, rfl, h⟩ := popR_e h
  intro H locs la hP hS hl
  obtain ⟨hc, hin, h⟩ := cond_e h
  have hc : clT r = 11 := Nat.eq_of_beq_eq_true hc
  have hr : r < NO := clT_lt (by omega)
  have hro := clT_out r hr hc
  refine va_last hx hb hK hP (hap.D M o) hS r 2 ((wcs_get hr).trans (by rw [wc_long hc])) rfl (by rw [hro]; exact hin) (of_decide_eq_true hd) (fun H1 locs1 hP1 hD1 hS1 => ?_)
  rw [wcs_set (M' := M) (o' := vp_updL o q.toNatClampNeg x) hr (by rw [wc_long hc]) (fun i hi hne => wc_out hi (fun h9 => hne (by rw [clT_out i hi h9, hro])))] at hP1
  have w := hn _ _ _ _ _ h H1 locs1 la hP1 hS1 hl
  rw [of_decide_eq_true hn1] at w
  exact w
theorem s_arraylength (hA : Am p s m args c θ A mi sc) {a : Nat} {v : Int32} {ts : List Nat} {j : Nat} (hk : okE mi ps j (.arraylength, a, v, ts) = true) {ls : Lv} {st : List Value} {M : Mem} {o : Ou} {k : Nat} {nx : NX}
    (h : step (GA p l e R s m args below meth c Q θ A mi ps c0 s0) ret tho thr Cl sc (.arraylength) a v ts ls st M o k nx) (hn : ∀ ls st M o k, nx ls st M o k → GA p l e R s m args below meth c Q θ A mi ps c0 s0 (j + 1) ls st M o k) : GA p l e R s m args below meth c Q θ A mi ps c0 s0 j ls st M o k := by
  obtain ⟨hx, hb, hml, hown, hts, hK, hap, hsc⟩ := hA
  simp only [okE, Bool.and_eq_true] at hk
  obtain ⟨hd, hn1⟩ := hk
  obtain ⟨r, st, rfl, h⟩ := popR_e h
  intro H locs la hP hS hl
  obtain ⟨hc, h⟩ := cond_e h
  have hc : r = SCR := Nat.eq_of_beq_eq_true hc
  subst hc
  have h : (match sc.1 with | 0 => False | L + 1 => nx ls (.int (nI L) :: st) M o k) := h
  rcases hsc with h0 | ⟨L, hL, hX, hbl, hbA⟩
  · rw [h0] at h
    exact h.elim
  · rw [hL] at h
    have w := hn _ _ _ _ _ h H locs la hP hS hl
    rw [of_decide_eq_true hn1] at w
    exact va_slen hx hb hX hbl hbA hS (of_decide_eq_true hd) w
end SND
