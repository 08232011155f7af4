/-! THE LOGIC, PART 5: a method's body as a whole. -/
def chk (mi : Nat) (ps : List Nat) (em : List En) : Bool := (List.range em.length).all (fun j => okE mi ps j (em.getD j (.nop, 0, 0, [])))
theorem chk_e {mi : Nat} {ps : List Nat} {em : List En} (h : chk mi ps em = true) : ∀ j q, em[j]? = some q → okE mi ps j q = true := by
  intro j q hq
  have hj : j < em.length := (List.getElem?_eq_some_iff.mp hq).1
  have := List.all_eq_true.mp h j (List.mem_range.mpr hj)
  rw [List.getD_eq_getElem?_getD, hq] at this
  exact this
section BOD
variable {p : Program} {l : Launch} {e : Env} {R : Room} {s : State} {m : MethodId} {args : Array Value} {below : List Frame} {meth : Method} {c : Code} {Q : State → Prop}
variable {θ : Th} {A : Nat → Prop} {mi c0 s0 d K : Nat} {ps : List Nat} {sc : Nat × (Nat → Int32)}
variable {ret : Option Value → Mem → Ou → Nat → Prop} {tho : String → Mem → Ou → Nat → Prop} {thr : String → Lv → Mem → Ou → Nat → Prop}
def RetOk (p : Program) (l : Launch) (e : Env) (R : Room) (s : State) (m : MethodId) (args : Array Value) (below : List Frame) (meth : Method) (c : Code) (Q : State → Prop) (θ : Th) (A : Nat → Prop) (mi c0 s0 : Nat) (ret : Option Value → Mem → Ou → Nat → Prop) : Prop :=
  (∀ x M o k, ret (some (.int x)) M o k → (rtT mi = some .int ∨ (rtT mi = some .boolean ∧ bz x)) → ∀ (H : Heap) (locs : List Loc) (la : Array Slot) (pc : Nat), va_P θ.2.1 vwCl (wcs θ M o) H → va_S A s.heap H locs → decode (bT mi) pc = .ok (.ireturn, 1) → W p l e R s m args below meth c H locs (c0 + k) (s0 + 6 * k) Q (F0 m pc la [.int x])) ∧
  (∀ x M o k, ret (some (.long x)) M o k → rtT mi = some .long → ∀ (H : Heap) (locs : List Loc) (la : Array Slot) (pc : Nat), va_P θ.2.1 vwCl (wcs θ M o) H → va_S A s.heap H locs → decode (bT mi) pc = .ok (.lreturn, 1) → W p l e R s m args below meth c H locs (c0 + k) (s0 + 6 * k) Q (F0 m pc la [.long x])) ∧
  (∀ M o k, ret none M o k → rtT mi = none → ∀ (H : Heap) (locs : List Loc) (la : Array Slot) (pc : Nat), va_P θ.2.1 vwCl (wcs θ M o) H → va_S A s.heap H locs → decode (bT mi) pc = .ok (.return_, 1) → W p l e R s m args below meth c H locs (c0 + k) (s0 + 6 * k) Q (F0 m pc la []))
def ThoOk (p : Program) (l : Launch) (e : Env) (R : Room) (s : State) (m : MethodId) (args : Array Value) (below : List Frame) (meth : Method) (c : Code) (Q : State → Prop) (θ : Th) (A : Nat → Prop) (mi : Nat) (ps : List Nat) (c0 s0 : Nat) (tho : String → Mem → Ou → Nat → Prop) : Prop :=
  ∀ (j ik a : Nat), thOk mi ps j ik a = true → ∀ M o k, tho (TL a).1 M o (k + 1) → ∀ (H : Heap) (locs : List Loc) (la : Array Slot) (ls : Lv) (st : List Value), catS st ≤ 8 → va_P θ.2.1 vwCl (wcs θ M o) H → va_S A s.heap H locs → lh θ la (mlT mi) ls → W p l e R s m args below meth c H locs (c0 + k) (s0 + 6 * k) Q (F0 m (ps.getD j 0) la (st.map (cv θ)))
set_option maxHeartbeats 4000000 in
theorem exec_sound (hA : Am p s m args c θ A mi sc) (hA2 : Am2 l R s θ A c0 s0 d K) (hd1 : 1 ≤ d) (hR : RetOk p l e R s m args below meth c Q θ A mi c0 s0 ret) (hT : ThoOk p l e R s m args below meth c Q θ A mi ps c0 s0 tho)
    {em : List En} (hX : ∀ j n a v ts, em[j]? = some (.invokevirtual n, a, v, ts) ∨ em[j]? = some (.invokestatic n, a, v, ts) → ThrOk p l e R s m args below meth c Q θ A mi ps c0 s0 thr j) (hem : chk mi ps em = true) :
    ∀ (r : List En) (j : Nat), em.drop j = r → ∀ ls st M o k, exec (GA p l e R s m args below meth c Q θ A mi ps c0 s0) ret tho thr (ClA l d K) sc r ls st M o k → GA p l e R s m args below meth c Q θ A mi ps c0 s0 j ls st M o k := by
  intro r
  induction r with
  | nil => intro j _ ls st M o k h; exact False.elim h
  | cons q r ih =>
    intro j hj ls st M o k h
    have hq : em[j]? = some q := by
      have : (em.drop j)[0]? = some q := by rw [hj]; rfl
      rwa [List.getElem?_drop, Nat.add_zero] at this
    have hr : em.drop (j + 1) = r := by
      rw [← List.tail_drop, hj]; rfl
    have hk := chk_e hem j q hq
    have hn := ih (j + 1) hr
    obtain ⟨i, a, v, ts⟩ := q
    replace h : step (GA p l e R s m args below meth c Q θ A mi ps c0 s0) ret tho thr (ClA l d K) sc i a v ts ls st M o k (exec (GA p l e R s m args below meth c Q θ A mi ps c0 s0) ret tho thr (ClA l d K) sc r) := h
    cases i
    all_goals first | exact False.elim h | skip
    case iload_n => exact s_iload_n hA hk h hn
    case iload => exact s_iload hA hk h hn
    case lload_n => exact s_lload_n hA hk h hn
    case lload => exact s_lload hA hk h hn
    case aload_n => exact s_aload_n hA hk h hn
    case aload => exact s_aload hA hk h hn
    case istore_n => exact s_istore_n hA hk h hn
    case istore => exact s_istore hA hk h hn
    case astore_n => exact s_astore_n hA hk h hn
    case astore => exact s_astore hA hk h hn
    case lstore_n => exact s_lstore_n hA hk h hn
    case lstore => exact s_lstore hA hk h hn
    case iinc => exact s_iinc hA hk h hn
    case iconst => exact s_iconst hA hk h hn
    case bipush => exact s_bipush hA hk h hn
    case sipush => exact s_sipush hA hk h hn
    case ldc => exact s_ldc hA hk h hn
    case ldc2_w => exact s_ldc2_w hA hk h hn
    case lconst => exact s_lconst hA hk h hn
    case iadd => exact s_iadd hA hk h hn
    case isub => exact s_isub hA hk h hn
    case imul => exact s_imul hA hk h hn
    case iand => exact s_iand hA hk h hn
    case idiv => exact s_idiv hA hk h hn
    case irem => exact s_irem hA hk h hn
    case ladd => exact s_ladd hA hk h hn
    case lsub => exact s_lsub hA hk h hn
    case lmul => exact s_lmul hA hk h hn
    case land => exact s_land hA hk h hn
    case lrem => exact s_lrem hA hk h hn
    case lcmp => exact s_lcmp hA hk h hn
    case i2l => exact s_i2l hA hk h hn
    case l2i => exact s_l2i hA hk h hn
    case dup => exact s_dup hA hk h hn
    case dup2 => exact s_dup2 hA hk h hn
    case if_icmp => exact s_if_icmp hA hk h hn
    case ifCond => exact s_ifCond hA hk h hn
    case goto => exact s_goto hA hk h hn
    case nop => exact s_nop hA hk h hn
    case tableswitch => exact s_tableswitch hA hk h hn
    case getfield => exact s_getfield hA hk h hn
    case putfield => exact s_putfield hA hk h hn
    case iaload => exact s_iaload hA hk h hn
    case baload => exact s_baload hA hk h hn
    case laload => exact s_laload hA hk h hn
    case iastore => exact s_iastore hA hk h hn
    case bastore => exact s_bastore hA hk h hn
    case lastore => exact s_lastore hA hk h hn
    case arraylength => exact s_arraylength hA hk h hn
    case invokevirtual n => exact s_invokevirtual hA hA2 hk (hX j n a v ts (Or.inl hq)) h hn
    case invokestatic n => exact s_invokestatic hA hA2 hk (hX j n a v ts (Or.inr hq)) hd1 h hn
    case new n =>
      obtain ⟨hc, h⟩ := cond_e h
      exact fun H locs la hP hS hl => hT j n a hk M o k h H locs la ls st (Nat.le_of_ble_eq_true hc) hP hS hl
    case ireturn =>
      simp only [step] at h
      simp only [okE, Bool.and_eq_true] at hk
      split at h
      · intro H locs la hP hS hl
        split at h
        · exact hR.1 _ _ _ _ h (Or.inl (of_decide_eq_true hk.2)) H locs la _ hP hS (of_decide_eq_true hk.1)
        · rename_i h0
          obtain ⟨hk1, hk2⟩ := hk
          split at hk2
          · exact absurd rfl h0
          · exact hR.1 _ _ _ _ h.2 (Or.inr ⟨of_decide_eq_true hk2, h.1⟩) H locs la _ hP hS (of_decide_eq_true hk1)
      · exact False.elim h
    case lreturn =>
      simp only [step] at h
      simp only [okE, Bool.and_eq_true] at hk
      split at h
      · intro H locs la hP hS hl
        exact hR.2.1 _ _ _ _ h (of_decide_eq_true hk.2) H locs la _ hP hS (of_decide_eq_true hk.1)
      · exact False.elim h
    case return_ =>
      simp only [step] at h
      simp only [okE, Bool.and_eq_true] at hk
      split at h
      · intro H locs la hP hS hl
        exact hR.2.2 _ _ _ h (of_decide_eq_true hk.2) H locs la _ hP hS (of_decide_eq_true hk.1)
      · exact False.elim h
end BOD
