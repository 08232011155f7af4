/-! THE LOGIC, PART 7: a method that catches (the law's wrappers). A handler's row links to a kind; the search passes rows of other kinds. -/
section HND
variable {E : CtlPost} {e : Env} {d : Bool} {acts : List Action} {s : State} {f : JFrame} {a : Addr}
/-- one row of the table, its kind by the link: it takes the thrown thing, or the search goes on -/
theorem hnd_row {Q : Handler → Pre} {x : ExceptionTableEntry} {t : List ExceptionTableEntry} {c : ClassId} {cell : Cell} (hx : covers x f.pc = true) (h0 : x.catchType ≠ 0)
    (hl : s.vm.ClassLinks e.platform f.method.cls x.catchType c) (hcell : s.heap[a]? = some cell) (hobj : ∀ k, cell.vm ≠ .statics k)
    (hk : ∃ k, s.vm.classes[cell.cls]? = some k) (hc : ∃ k, s.vm.classes[c]? = some k) :
    wp (findHandler.go f a (x :: t)) Q E e d acts s ↔ (if s.vm.assignable cell.cls c = true then Q (.found x.handlerPc) d acts (s.setVm (s.vm.noted f.method.cls x.catchType (.cls c))) else wp (findHandler.go f a t) Q E e d acts (s.setVm (s.vm.noted f.method.cls x.catchType (.cls c)))) := by
  simp only [covers] at hx
  obtain ⟨ha, ht⟩ := (resolveClass_links e.toSetting hl).op (op := VmOp.resolveClass f.method.cls x.catchType) rfl
  have hal : s.vm.Alike (s.vm.noted f.method.cls x.catchType (.cls c)) := (Vm.Alike.refl s.vm).noted _ _ _
  obtain ⟨k1, hk1⟩ := hk
  obtain ⟨k2, hk2⟩ := hc
  obtain ⟨k1', hk1', -⟩ := hal.2.2 _ _ hk1
  obtain ⟨k2', hk2', -⟩ := hal.2.2 _ _ hk2
  have hsame : (s.vm.noted f.method.cls x.catchType (.cls c)).assignable cell.cls c = s.vm.assignable cell.cls c := hal.assignable _ _
  cases hfit : s.vm.assignable cell.cls c <;> rw [hfit] at hsame <;> simp [findHandler.go, hx, h0, ha, ht, hcell, hobj, hk1', hk2', hsame, VmOp.dirties, VmOp.acts]
/-- the search: rows that cover and pass, then one that covers and takes -/
theorem hnd_find {s₀ : State} {cell : Cell} (hobj : ∀ k, cell.vm ≠ .statics k) (hk0 : ∃ k, s₀.vm.classes[cell.cls]? = some k) {x : ExceptionTableEntry} {rest : List ExceptionTableEntry} :
    ∀ (pre : List ExceptionTableEntry) (S : State), s₀.WarmedH S.vm → S.heap[a]? = some cell →
      (∀ y ∈ pre, covers y f.pc = true ∧ y.catchType ≠ 0 ∧ ∃ c, s₀.vm.ClassLinks e.platform f.method.cls y.catchType c ∧ s₀.vm.assignable cell.cls c = false) →
      (covers x f.pc = true ∧ x.catchType ≠ 0 ∧ ∃ c, s₀.vm.ClassLinks e.platform f.method.cls x.catchType c ∧ s₀.vm.assignable cell.cls c = true) →
      ∃ vm', s₀.WarmedH vm' ∧ ∀ (Q : Handler → Pre) (E : CtlPost) (d : Bool) (acts : List Action), wp (findHandler.go f a (pre ++ x :: rest)) Q E e d acts S ↔ Q (.found x.handlerPc) d acts (S.setVm vm') := by
  obtain ⟨k0, hk0⟩ := hk0
  intro pre
  induction pre with
  | nil =>
    intro S hW hcell _ ⟨h1, h2, c, hl, hfit⟩
    obtain ⟨dk, _, _, kt, hd, _, _, _, _, hkt, _, hopen⟩ := hl.here
    obtain ⟨k0', hk0', -⟩ := hW.alike.2.2 _ _ hk0
    obtain ⟨kt', hkt', -⟩ := hW.alike.2.2 _ _ hkt
    refine ⟨_, hW.noted hd hopen (State.rightAt_cls hl), fun Q E d acts => ?_⟩
    rw [List.nil_append, hnd_row h1 h2 (hW.classLinks hl) hcell hobj ⟨k0', hk0'⟩ ⟨kt', hkt'⟩, hW.alike.assignable, hfit, if_pos rfl]
  | cons y ys ih =>
    intro S hW hcell hp hx
    obtain ⟨h1, h2, c, hl, hno⟩ := hp y List.mem_cons_self
    obtain ⟨dk, _, _, kt, hd, _, _, _, _, hkt, _, hopen⟩ := hl.here
    obtain ⟨k0', hk0', -⟩ := hW.alike.2.2 _ _ hk0
    obtain ⟨kt', hkt', -⟩ := hW.alike.2.2 _ _ hkt
    obtain ⟨vm', hW', hq⟩ := ih (S.setVm (S.vm.noted f.method.cls y.catchType (.cls c))) (hW.noted hd hopen (State.rightAt_cls hl)) hcell (fun z hz => hp z (List.mem_cons_of_mem _ hz)) hx
    refine ⟨vm', hW', fun Q E d acts => ?_⟩
    rw [List.cons_append, hnd_row h1 h2 (hW.classLinks hl) hcell hobj ⟨k0', hk0'⟩ ⟨kt', hkt'⟩, hW.alike.assignable, hno, if_neg (by decide)]
    exact hq Q E d acts
theorem hnd_step {r : List Frame} {pc : Nat} {vm' : Vm} (hf : ∀ (Q : Handler → Pre) (E : CtlPost) (d : Bool) (acts : List Action), wp (findHandler f a) Q E e d acts s ↔ Q (.found pc) d acts (s.setVm vm')) :
    (stepThrowing e s a (.java f :: r)).Is ((s.setVm vm').setFrames (.java { f with pc := pc, stack := [.ref a] } :: r)) [] := by
  simp only [stepThrowing, searchFrame, vmDo]
  generalize hr : Sem.go _ e false [] s = res
  obtain ⟨as, rfl, ha⟩ := Sem.eq_ok_of hr (a := Handler.found pc) (s' := s.setVm vm') (acts' := []) (by simp [hf _ _ _ _])
  exact ⟨rfl, ha⟩
theorem hnd_steps {tb : Tables} {target : State} {g : JFrame} {c : Code} {below : List Frame} (h : At s g.method c below) {pc : Nat} {vm' : Vm}
    (hf : ∀ (Q : Handler → Pre) (E : CtlPost) (d : Bool) (acts : List Action), wp (findHandler g a) Q E e d acts ((s.setTop g).pushFrame (.throwing a)) ↔ Q (.found pc) d acts (((s.setTop g).pushFrame (.throwing a)).setVm vm'))
    (hrest : Steps tb e below ((s.setVm vm').setTop { g with pc := pc, stack := [.ref a] }) target) : Steps tb e below ((s.setTop g).pushFrame (.throwing a)) target := by
  obtain ⟨hgo, hw⟩ := h.throwing a
  refine Steps.head hgo hw ?_
  rw [stepThread_throwing (frames_entered h.top _), (hnd_step (s := (s.setTop g).pushFrame (.throwing a)) hf).1]
  obtain ⟨g₀, hg⟩ := Option.isSome_iff_exists.mp h.top
  obtain ⟨r, hr⟩ := State.topJava?_eq_some.mp hg
  have hr' : (s.setVm vm').frames = .java g₀ :: r := hr
  have key : ∀ (u : State) (F F' : List Frame), ((u.setFrames F).setVm vm').setFrames F' = (u.setVm vm').setFrames F' := by
    intro u F F'
    rw [show (u.setFrames F).setVm vm' = (u.setVm vm').setFrames F from rfl, State.setFrames_setFrames]
  rw [State.setTop_of_frames _ hr'] at hrest
  rw [hr, List.tail_cons, State.pushFrame, key, State.setTop_of_frames _ hr, key]
  exact hrest
end HND
/-- the names of the catch types in the law's kind -/
def CKL : List (Nat × String) := [(13, "java/lang/IllegalArgumentException"), (15, "java/lang/IllegalStateException"), (21, "java/lang/IndexOutOfBoundsException")]
theorem ckl_w : ∀ q ∈ CKL, Cond.classLink RL q.1 q.2 ∈ lw_tbl := by decide +kernel
theorem ckl_ex : ∀ q ∈ CKL, q.2 ∈ EX ∧ q.1 ≠ 0 := by decide +kernel
def ckn (i : Nat) : String := match i with
  | 13 => "java/lang/IllegalArgumentException"
  | 15 => "java/lang/IllegalStateException"
  | 21 => "java/lang/IndexOutOfBoundsException"
  | _ => ""
/-- the rows all cover pc, all name known kinds -/
def hhOk (hh : List (Nat × Nat × Nat × Nat)) (pc : Nat) : Bool := hh.all (fun q => decide (q.1 ≤ pc) && decide (pc < q.2.1) && decide ((q.2.2.2, ckn q.2.2.2) ∈ CKL))
/-- the handler's pc for a thrown kind -/
def catI : List (Nat × Nat × Nat × Nat) → String → Option Nat
  | [], _ => none
  | q :: r, E => if ckn q.2.2.2 = E then some q.2.2.1 else catI r E
theorem catI_split : ∀ {hh : List (Nat × Nat × Nat × Nat)} {E : String} {hp : Nat}, catI hh E = some hp → ∃ pre q suf, hh = pre ++ q :: suf ∧ (∀ y ∈ pre, ckn y.2.2.2 ≠ E) ∧ ckn q.2.2.2 = E ∧ q.2.2.1 = hp := by
  intro hh
  induction hh with
  | nil => intro E hp h; cases h
  | cons q r ih =>
    intro E hp h
    unfold catI at h
    split at h
    · rename_i he
      exact ⟨[], q, r, rfl, (fun y hy => by cases hy), he, Option.some.inj h⟩
    · rename_i he
      obtain ⟨pre, q', suf, e1, e2, e3, e4⟩ := ih h
      refine ⟨q :: pre, q', suf, by rw [e1]; rfl, fun y hy => ?_, e3, e4⟩
      rcases List.mem_cons.mp hy with rfl | hy
      · exact he
      · exact e2 y hy
section CAT
variable {p : Program} {l : Launch} {e : Env} {R : Room} {s : State} {m : MethodId} {args : Array Value} {below : List Frame} {meth : Method} {c : Code} {Q : State → Prop}
theorem cat_W {θ : Th} {A : Nat → Prop} {H : Heap} {locs : List Loc} {cells slots : Nat} {E : String} {ce : Cell} {q9 : Addr} {pc hp : Nat} {la : Array Slot} {st : List Value} {hh : List (Nat × Nat × Nat × Nat)}
    (hown : s.vm.findClass RL = some m.cls) (hts : ∀ w ∈ GW, w.before args s = true) (hst : StU θ A s s.heap) (htab : c.exceptionTable.toList = tableOf hh) (hok : hhOk hh pc = true) (hc : catI hh E = some hp) (hE : E ∈ EX)
    (hcell : H[q9]? = some ce) (hv : ce.vm = .none) (hcl : s.vm.findClass E = some ce.cls) (kk : W p l e R s m args below meth c H locs cells slots Q (F0 m hp la [.ref q9])) :
    vx_W p l e R s m args below meth c H locs cells slots Q (F0 m pc la st) q9 := by
  intro T hT X
  have hpl : e.platform.magicAccessors = ({} : Platform).magicAccessors := by rw [X.admits.platform]
  obtain ⟨pre, q, suf, e1, e2, e3, e4⟩ := catI_split hc
  have hall : ∀ y ∈ hh, covers ⟨y.1, y.2.1, y.2.2.1, y.2.2.2⟩ pc = true ∧ (y.2.2.2, ckn y.2.2.2) ∈ CKL := by
    intro y hy
    have := List.all_eq_true.mp hok y hy
    simp only [Bool.and_eq_true, decide_eq_true_eq] at this
    exact ⟨by simp only [covers, Bool.and_eq_true, decide_eq_true_eq]; exact this.1, this.2⟩
  have hlinks : ∀ y ∈ hh, y.2.2.2 ≠ 0 ∧ ∃ cy, s.vm.findClass (ckn y.2.2.2) = some cy ∧ s.vm.ClassLinks e.platform m.cls y.2.2.2 cy := by
    intro y hy
    obtain ⟨h1, h2⟩ := hall y hy
    refine ⟨(ckl_ex _ h2).2, ?_⟩
    exact Cond.classLink_spec hown (hts _ (List.mem_filter.mpr ⟨ckl_w _ h2, rfl⟩)) e.platform hpl
  obtain ⟨kE, hkE, -⟩ := Vm.findClass_spec hcl
  have hobj : ∀ k, ce.vm ≠ .statics k := by rw [hv]; intro k hk; cases hk
  have hfind := hnd_find (e := e) (f := F0 m pc la st) (a := q9) (s₀ := s) hobj ⟨kE, hkE⟩ (x := ⟨q.1, q.2.1, q.2.2.1, q.2.2.2⟩) (rest := tableOf suf) (tableOf pre) ((T.setTop (F0 m pc la st)).pushFrame (.throwing q9)) X.warmed (by show T.heap[q9]? = some ce; rw [hT]; exact hcell)
    (fun y hy => by
      obtain ⟨y0, hy0, rfl⟩ := List.mem_map.mp hy
      have hm : y0 ∈ hh := by rw [e1]; exact List.mem_append_left _ hy0
      obtain ⟨h0, cy, h1, h2⟩ := hlinks y0 hm
      refine ⟨(hall y0 hm).1, h0, cy, h2, ?_⟩
      obtain ⟨a8, b8, w1, w2, w3⟩ := hst.2.2.2.2.2 E hE _ (ckl_ex _ (hall y0 hm).2).1 (fun q => e2 y0 hy0 q.symm)
      cases Option.some.inj (w1.symm.trans hcl)
      cases Option.some.inj (w2.symm.trans h1)
      exact w3)
    (by
      have hm : q ∈ hh := by rw [e1]; exact List.mem_append_right _ List.mem_cons_self
      obtain ⟨h0, cy, h1, h2⟩ := hlinks q hm
      refine ⟨(hall q hm).1, h0, cy, h2, ?_⟩
      have hb : Cond.castable E E ∈ BW := List.mem_append_left _ (List.mem_map.mpr ⟨E, hE, rfl⟩)
      obtain ⟨c3, c4, w1, w2, w3⟩ := Cond.castable_spec (va_Nw.use (A := args) rfl (hst.2.2.2.2.1 _ hb))
      cases Option.some.inj (w1.symm.trans hcl)
      rw [e3] at h1
      cases Option.some.inj (w2.symm.trans h1)
      exact w3)
  obtain ⟨vm', hW', hq⟩ := hfind
  have hsplit : c.exceptionTable.toList = tableOf pre ++ ⟨q.1, q.2.1, q.2.2.1, q.2.2.2⟩ :: tableOf suf := by rw [htab, e1]; simp [tableOf]
  have hf : ∀ (Q : Handler → Pre) (E : CtlPost) (d : Bool) (acts : List Action), wp (findHandler (F0 m pc la st) q9) Q E e d acts ((T.setTop (F0 m pc la st)).pushFrame (.throwing q9)) ↔ Q (.found hp) d acts (((T.setTop (F0 m pc la st)).pushFrame (.throwing q9)).setVm vm') := by
    intro Q E d acts
    rw [Jvm.W.findHandler_eq (meth := meth) (code := c) X.method' X.code, hsplit, ← e4]
    exact hq Q E d acts
  obtain ⟨t, a1, b1⟩ := kk (T.setVm vm') hT (X.noted hW')
  exact ⟨t, hnd_steps (g := F0 m pc la st) X.here hf a1, b1⟩
end CAT

def isAst : Instr → Nat → Bool
  | .astore_n x, a => decide (x.val = a)
  | .astore x, a => decide (x = a)
  | _, _ => false
/-- where a thrown kind goes: to the handler, whose first instruction puts the thing away -/
def catG (G : GG) (ps : List Nat) (em : List En) (hh : List (Nat × Nat × Nat × Nat)) (E : String) (ls : Lv) (M : Mem) (o : Ou) (k : Nat) : Prop :=
  ∃ (jh al : Nat) (i : Instr) (v : Int32) (ts : List Nat), catI hh E = some (ps.getD jh 0) ∧ E ∈ EX ∧ em[jh]? = some (i, al, v, ts) ∧ isAst i al = true ∧ al < ls.length ∧ G (jh + 1) (setv ls al none) [] M o k
def BodyC (l : Launch) (d K : Nat) (ps : List Nat) (em : List En) (hh : List (Nat × Nat × Nat × Nat)) (post : Option Value → Mem → Ou → Prop) (G : GG) : Prop :=
  ∀ j ls st M o k, exec G (fun v M o k => post v M o ∧ k ≤ K) (fun _ _ _ _ => False) (fun E ls M o k => catG G ps em hh E ls M o k) (ClA l d K) (0, fun _ => 0) (em.drop j) ls st M o k → G j ls st M o k
theorem setv_len : ∀ {ls : Lv} {a : Nat} {v : Option Value}, (setv ls a v).length = ls.length := by
  intro ls
  induction ls with
  | nil => intro a v; cases a <;> rfl
  | cons x t ih => intro a v; cases a with
    | zero => rfl
    | succ a => simp [setv, ih]
/-- no call of the body lies outside the rows -/
def invOk (ps : List Nat) (em : List En) (hh : List (Nat × Nat × Nat × Nat)) : Bool := (List.range em.length).all (fun j => match em.getD j (.nop, 0, 0, []) with
  | (.invokevirtual _, _, _, _) => hhOk hh (ps.getD j 0)
  | (.invokestatic _, _, _, _) => hhOk hh (ps.getD j 0)
  | _ => true)
section CTC
variable {l : Launch} {mi d K : Nat} {ps : List Nat} {post : Option Value → Mem → Ou → Prop}
theorem ct_catch {as : List Value} {M : Mem} {o : Ou} {em : List En} {hh : List (Nat × Nat × Nat × Nat)} (hem : chk mi ps em = true) (hmi : mi < NMT) (hkd : kdT mi ≠ 0) (hhe : hhT mi = some hh) (how : owT mi = 9) (hp0 : ps.getD 0 0 = 0) (hinv : invOk ps em hh = true) (hd : 8 ≤ d) (hcat : catS as ≤ mlT mi)
    (body : ∀ G : GG, BodyC l d K ps em hh post G → G 0 (entL as (mlT mi)) [] M o 0) : Ct l d K mi as M o post (fun _ _ _ => False) := by
  intro θ sz
  obtain ⟨hpn, hcn, -⟩ := nm_at hmi hkd
  have hce : wCode mi = Cond.codeWith (yT mi) (bT mi) (mlT mi) (rtT mi) hh := by unfold wCode; rw [hhe]
  refine vx_ofWH (cc := bT mi) (maxL := mlT mi) (ret := rtT mi) (hh := hh) (ws' := GW) hpn (by unfold wsOf; rw [hce]) ?_
  intro p e s m args below meth c s₁ B hml hv
  obtain ⟨rfl, rfl, hP, hap, hst⟩ := hv
  have hts := atoms_spec (ws := wsOf mi) B.pre
  have hown : s.vm.findClass (yT mi).cls = some m.cls := findClass_of_methodNamed B.named
  rw [hcn] at hown
  have hA : Am p s m (as.map (cv θ)).toArray c θ (Aset θ s.heap.size) mi (0, fun _ => 0) := ⟨B.exec, B.bytes, hml, hown, fun w hw => hts w (List.mem_cons_of_mem _ hw), hst.1, ⟨hap.1, fun i hi => Or.inl ⟨i, hi, rfl⟩⟩, Or.inl rfl⟩
  have hA2 : Am2 l (rmOf d K) s θ (Aset θ s.heap.size) 0 0 d K := ⟨hst, fun q hq => Or.inr hq, Nat.le_refl _, Nat.le_refl _, by show 0 + K ≤ K; omega, by show 0 + 6 * K ≤ 6 * K; omega⟩
  have htab : c.exceptionTable.toList = tableOf hh := by
    have h1 := hts _ (show wCode mi ∈ wsOf mi from List.mem_cons_self)
    rw [hce] at h1
    exact vx_table (x := yT mi) B h1
  have hX := exec_sound (e := e) (below := below) (meth := meth) (em := em) (ps := ps) (tho := fun _ _ _ _ => False) (thr := fun E ls M o k => catG (GA p l e (rmOf d K) s m (as.map (cv θ)).toArray below meth c (vx_MQ below (Qof θ s.heap.size post) (Xof θ s.heap.size (fun _ _ _ => False)) (as.map (cv θ)).toArray s K (6 * K) (Aset θ s.heap.size)) θ (Aset θ s.heap.size) mi ps 0 0) ps em hh E ls M o k) hA hA2 (by omega) (ret_ok (post := post) (px := fun _ _ _ => False) (d := d) (K := K) hA B.returns B.notSynchronized) (fun _ _ _ _ _ _ _ h => h.elim) (fun j n a v ts hj => by
    intro E ls M o k h ce q9 H locs la st hP hS hl e1 e2 e3
    obtain ⟨jh, al, i, v', ts', c1, c2, c3, c4, c5, c6⟩ := h
    have hok : hhOk hh (ps.getD j 0) = true := by
      have hjl : j < em.length := by rcases hj with q | q <;> exact (List.getElem?_eq_some_iff.mp q).1
      have h1 := List.all_eq_true.mp hinv j (List.mem_range.mpr hjl)
      rw [List.getD_eq_getElem?_getD] at h1
      rcases hj with q | q <;> (rw [q] at h1; exact h1)
    obtain ⟨hx, hb, -⟩ := id hA
    refine cat_W (by rw [how] at hown; exact hown) (fun w hw => hts w (List.mem_cons_of_mem _ hw)) hst htab hok c1 c2 e1 e2 e3 ?_
    have hke := chk_e hem jh _ c3
    obtain ⟨hlen, lv, hv, hm⟩ := id hl
    have fin : ∀ la' : Array Slot, lv_has la' (mlT mi) ((al, Value.ref q9) :: lv.filter (fun q => !(q.1 == al) && !(q.1 + 1 == al && q.2.category == 2))) → lh θ la' (mlT mi) (setv ls al none) := by
      intro la' hl'
      refine ⟨setv_len.trans hlen, _, hl', fun i u hu => ?_⟩
      rcases setv_at hu with ⟨q1, q2⟩ | ⟨q1, q2, q3⟩
      · cases q2
      · refine List.mem_cons_of_mem _ (List.mem_filter.mpr ⟨hm _ _ q2, ?_⟩)
        have hc : (cv θ u).category = u.category := by cases u <;> rfl
        simp only [hc, Bool.and_eq_true, Bool.not_eq_true', beq_eq_false_iff_ne, ne_eq, Bool.and_eq_false_imp, beq_iff_eq]
        exact ⟨q1, fun z1 z2 => q3 ⟨z1, z2⟩⟩
    cases i
    all_goals first | (exact absurd (show false = true from c4) (by decide)) | skip
    case astore x =>
      simp only [isAst, decide_eq_true_eq] at c4
      subst c4
      simp only [okE, Bool.and_eq_true] at hke
      obtain ⟨⟨hd1, hn1⟩, he⟩ := hke
      exact lv_astore hx hb (of_decide_eq_true hd1) hv (by omega) rfl (fun ls' hl' => by
        have w := c6 H locs ls' hP hS (fin ls' hl')
        rw [of_decide_eq_true hn1] at w
        exact w)
    case astore_n x =>
      simp only [isAst, decide_eq_true_eq] at c4
      simp only [okE, Bool.and_eq_true] at hke
      obtain ⟨⟨hd1, hn1⟩, he⟩ := hke
      exact lv_astore_n hx hb (of_decide_eq_true hd1) (of_decide_eq_true he) hv (by omega) rfl (fun ls' hl' => by
        have w := c6 H locs ls' hP hS (fin ls' hl')
        rw [of_decide_eq_true hn1] at w
        exact w)) hem
  have := body _ (fun j ls st M o k h => hX _ j rfl ls st M o k h) s.heap [] _ hP va_S.rf (ent_lh hcat)
  rw [hp0] at this
  rw [lg_entry_eq]
  exact this
end CTC
