/-! THE LOGIC, PART 1: a small machine over the fixed world. A state is: locals, operand stack, the memory M (thing, place), the long row o, the throws paid so far k. 'exec' runs a list of instructions and says what must hold; branches, calls and ends are handed to the parameters. -/
abbrev Mem : Type := Nat → Nat → Int32
abbrev Lv : Type := List (Option Value)
abbrev En : Type := Instr × Nat × Int32 × List Nat
abbrev Ou : Type := Nat → Int64
def mset (M : Mem) (i k : Nat) (v : Int32) : Mem := fun a => if a = i then upd (M i) k v else M a
def ldv : Lv → Nat → Option Value
  | x :: _, 0 => x
  | _ :: t, i + 1 => ldv t i
  | [], _ => none
def popI (st : List Value) (f : Int32 → List Value → Prop) : Prop := match st with
  | .int x :: r => f x r
  | _ => False
def popL (st : List Value) (f : Int64 → List Value → Prop) : Prop := match st with
  | .long x :: r => f x r
  | _ => False
def popR (st : List Value) (f : Nat → List Value → Prop) : Prop := match st with
  | .ref x :: r => f x r
  | _ => False
def ldI (ls : Lv) (a : Nat) (f : Int32 → Prop) : Prop := match ldv ls a with
  | some (.int x) => f x
  | _ => False
def ldL (ls : Lv) (a : Nat) (f : Int64 → Prop) : Prop := match ldv ls a with
  | some (.long x) => f x
  | _ => False
def ldR (ls : Lv) (a : Nat) (f : Nat → Prop) : Prop := match ldv ls a with
  | some (.ref x) => f x
  | _ => False
def noL : Option Value → Option Value
  | some (.long _) => none
  | some (.double _) => none
  | x => x
def noLK (x : Option Value) (f : Option Value → Prop) : Prop := match x with
  | some (.int y) => f (some (.int y))
  | some (.ref y) => f (some (.ref y))
  | some (.long _) => f none
  | none => f none
  | _ => False
def setv : Lv → Nat → Option Value → Lv
  | _ :: t, 0, v => v :: t
  | x :: t, i + 1, v => (match i with | 0 => noL x | _ => x) :: setv t i v
  | [], _, _ => []
def stK : Lv → Nat → Option Value → (Lv → Prop) → Prop
  | _ :: t, 0, v, f => f (v :: t)
  | x :: t, i + 1, v, f => match i with
    | 0 => noLK x (fun y => stK t i v (fun t' => f (y :: t')))
    | _ => stK t i v (fun t' => f (x :: t'))
  | [], _, _, _ => False
/-- a second half of a long: nothing is known there -/
def clv : Lv → Nat → Lv
  | _ :: t, 0 => none :: t
  | x :: t, i + 1 => x :: clv t i
  | [], _ => []
def clK : Lv → Nat → (Lv → Prop) → Prop
  | _ :: t, 0, f => f (none :: t)
  | x :: t, i + 1, f => clK t i (fun t' => f (x :: t'))
  | [], _, _ => False
def popK : Nat → List Value → List Value → (List Value → List Value → Prop) → Prop
  | 0, st, acc, f => f acc st
  | n + 1, x :: st, acc, f => popK n st (x :: acc) f
  | _ + 1, [], _, _ => False
def nthK (l : List Nat) (k : Nat) (f : Nat → Prop) : Prop := match l, k with
  | x :: _, 0 => f x
  | _ :: t, k + 1 => nthK t k f
  | [], _ => False
def bz (x : Int32) : Prop := x = 0 ∨ x = 1
def catS (st : List Value) : Nat := (st.map fun v => v.category).sum
abbrev GG : Type := Nat → Lv → List Value → Mem → Ou → Nat → Prop
abbrev NX : Type := Lv → List Value → Mem → Ou → Nat → Prop
def swK (G : Nat → Prop) (x : Int32) (d : Nat) : Nat → List Nat → Prop
  | _, [] => G d
  | i, t :: ts => (x = nI i → G t) ∧ (¬ x = nI i → swK G x d (i + 1) ts)
section EX
variable (G : GG) (ret : Option Value → Mem → Ou → Nat → Prop) (tho : String → Mem → Ou → Nat → Prop) (thr : String → Lv → Mem → Ou → Nat → Prop)
  (Cl : Nat → Nat → List Value → Mem → Ou → (Option Value → Mem → Ou → Nat → Prop) → (String → Mem → Ou → Nat → Prop) → Prop) (sc : Nat × (Nat → Int32))
def step (i : Instr) (a : Nat) (v : Int32) (ts : List Nat) (ls : Lv) (st : List Value) (M : Mem) (o : Ou) (k : Nat) (nx : NX) : Prop := match i with
  | .iload_n _ => ldI ls a (fun x => nx ls (.int x :: st) M o k)
  | .iload _ => ldI ls a (fun x => nx ls (.int x :: st) M o k)
  | .lload_n _ => ldL ls a (fun x => nx ls (.long x :: st) M o k)
  | .lload _ => ldL ls a (fun x => nx ls (.long x :: st) M o k)
  | .aload_n _ => ldR ls a (fun x => nx ls (.ref x :: st) M o k)
  | .aload _ => ldR ls a (fun x => nx ls (.ref x :: st) M o k)
  | .istore_n _ => popI st (fun x st => stK ls a (some (.int x)) (fun ls => nx ls st M o k))
  | .istore _ => popI st (fun x st => stK ls a (some (.int x)) (fun ls => nx ls st M o k))
  | .astore_n _ => popR st (fun x st => stK ls a (some (.ref x)) (fun ls => nx ls st M o k))
  | .astore _ => popR st (fun x st => stK ls a (some (.ref x)) (fun ls => nx ls st M o k))
  | .lstore_n _ => popL st (fun x st => stK ls a (some (.long x)) (fun ls => clK ls (a + 1) (fun ls => nx ls st M o k)))
  | .lstore _ => popL st (fun x st => stK ls a (some (.long x)) (fun ls => clK ls (a + 1) (fun ls => nx ls st M o k)))
  | .iinc _ _ => ldI ls a (fun x => stK ls a (some (.int (x + v))) (fun ls => nx ls st M o k))
  | .iconst _ => nx ls (.int v :: st) M o k
  | .bipush _ => nx ls (.int v :: st) M o k
  | .sipush _ => nx ls (.int v :: st) M o k
  | .ldc _ => nx ls (.int v :: st) M o k
  | .lconst _ => (match a with | 0 => nx ls (.long 0 :: st) M o k | _ => nx ls (.long 1 :: st) M o k)
  | .ldc2_w _ => nx ls (.long 4294967295 :: st) M o k
  | .iadd => popI st (fun y st => popI st (fun x st => nx ls (.int (x + y) :: st) M o k))
  | .isub => popI st (fun y st => popI st (fun x st => nx ls (.int (x - y) :: st) M o k))
  | .imul => popI st (fun y st => popI st (fun x st => nx ls (.int (x * y) :: st) M o k))
  | .iand => popI st (fun y st => popI st (fun x st => nx ls (.int (x &&& y) :: st) M o k))
  | .idiv => popI st (fun y st => popI st (fun x st => ¬ y = 0 ∧ nx ls (.int (x / y) :: st) M o k))
  | .irem => popI st (fun y st => popI st (fun x st => ¬ y = 0 ∧ nx ls (.int (x - x / y * y) :: st) M o k))
  | .ladd => popL st (fun y st => popL st (fun x st => nx ls (.long (x + y) :: st) M o k))
  | .lsub => popL st (fun y st => popL st (fun x st => nx ls (.long (x - y) :: st) M o k))
  | .lmul => popL st (fun y st => popL st (fun x st => nx ls (.long (x * y) :: st) M o k))
  | .land => popL st (fun y st => popL st (fun x st => nx ls (.long (x &&& y) :: st) M o k))
  | .lrem => popL st (fun y st => popL st (fun x st => ¬ y = 0 ∧ nx ls (.long (x - x / y * y) :: st) M o k))
  | .lcmp => popL st (fun y st => popL st (fun x st => nx ls (.int (lg_cmp x y) :: st) M o k))
  | .i2l => popI st (fun x st => nx ls (.long x.toInt64 :: st) M o k)
  | .l2i => popL st (fun x st => nx ls (.int x.toInt32 :: st) M o k)
  | .dup => (match st with
    | .int x :: st => nx ls (.int x :: .int x :: st) M o k
    | .ref x :: st => nx ls (.ref x :: .ref x :: st) M o k
    | _ => False)
  | .dup2 => popI st (fun j st => popR st (fun r st => nx ls (.int j :: .ref r :: .int j :: .ref r :: st) M o k))
  | .if_icmp c _ => popI st (fun y st => popI st (fun x st => match c with
    | .eq => (x = y → G (ts.getD 0 0) ls st M o k) ∧ (¬ x = y → nx ls st M o k)
    | .ne => (¬ x = y → G (ts.getD 0 0) ls st M o k) ∧ (x = y → nx ls st M o k)
    | .lt => (x < y → G (ts.getD 0 0) ls st M o k) ∧ (¬ x < y → nx ls st M o k)
    | .ge => (y ≤ x → G (ts.getD 0 0) ls st M o k) ∧ (¬ y ≤ x → nx ls st M o k)
    | .gt => (y < x → G (ts.getD 0 0) ls st M o k) ∧ (¬ y < x → nx ls st M o k)
    | .le => (x ≤ y → G (ts.getD 0 0) ls st M o k) ∧ (¬ x ≤ y → nx ls st M o k)))
  | .ifCond c _ => popI st (fun x st => match c with
    | .eq => (x = 0 → G (ts.getD 0 0) ls st M o k) ∧ (¬ x = 0 → nx ls st M o k)
    | .ne => (¬ x = 0 → G (ts.getD 0 0) ls st M o k) ∧ (x = 0 → nx ls st M o k)
    | .lt => (x < 0 → G (ts.getD 0 0) ls st M o k) ∧ (¬ x < 0 → nx ls st M o k)
    | .ge => (0 ≤ x → G (ts.getD 0 0) ls st M o k) ∧ (¬ 0 ≤ x → nx ls st M o k)
    | .gt => (0 < x → G (ts.getD 0 0) ls st M o k) ∧ (¬ 0 < x → nx ls st M o k)
    | .le => (x ≤ 0 → G (ts.getD 0 0) ls st M o k) ∧ (¬ x ≤ 0 → nx ls st M o k))
  | .goto _ => G (ts.getD 0 0) ls st M o k
  | .nop => G a ls st M o k
  | .tableswitch _ _ _ _ => popI st (fun x st => swK (fun t => G t ls st M o k) x (ts.getD 0 0) 0 ts.tail)
  | .getfield _ => popR st (fun r st => cond (Nat.beq (clT r) (ts.getD 0 0)) (nthK (slT r) a (fun c => match c with
    | 0 => nx ls (.int (M r a) :: st) M o k
    | t + 1 => nx ls (.ref t :: st) M o k)) False)
  | .putfield _ => popI st (fun x st => popR st (fun r st => cond (Nat.beq (clT r) (ts.getD 0 0)) (nthK (slT r) a (fun c => match c with
    | 0 => (match ts.getD 1 0 with
      | 0 => nx ls st (mset M r a x) o k
      | _ => bz x ∧ nx ls st (mset M r a x) o k)
    | _ + 1 => False)) False))
  | .iaload => popI st (fun j st => popR st (fun r st => cond (Nat.beq r SCR) (match sc.1 with | 0 => False | L + 1 => vp_in j L ∧ nx ls (.int (sc.2 j.toNatClampNeg) :: st) M o k) (cond (Nat.beq (clT r) 9) (vp_in j (lenT r) ∧ nx ls (.int (M r j.toNatClampNeg) :: st) M o k) False)))
  | .baload => popI st (fun j st => popR st (fun r st => cond (Nat.beq (clT r) 10) (vp_in j (lenT r) ∧ nx ls (.int (M r j.toNatClampNeg) :: st) M o k) False))
  | .iastore => popI st (fun x st => popI st (fun j st => popR st (fun r st => cond (Nat.beq (clT r) 9) (vp_in j (lenT r) ∧ nx ls st (mset M r j.toNatClampNeg x) o k) False)))
  | .bastore => popI st (fun x st => popI st (fun j st => popR st (fun r st => cond (Nat.beq (clT r) 10) (vp_in j (lenT r) ∧ bz x ∧ nx ls st (mset M r j.toNatClampNeg x) o k) False)))
  | .laload => popI st (fun j st => popR st (fun r st => cond (Nat.beq (clT r) 11) (vp_in j 1 ∧ nx ls (.long (o j.toNatClampNeg) :: st) M o k) False))
  | .lastore => popL st (fun x st => popI st (fun j st => popR st (fun r st => cond (Nat.beq (clT r) 11) (vp_in j 1 ∧ nx ls st M (vp_updL o j.toNatClampNeg x) k) False)))
  | .arraylength => popR st (fun r st => cond (Nat.beq r SCR) (match sc.1 with | 0 => False | L + 1 => nx ls (.int (nI L) :: st) M o k) False)
  | .invokevirtual _ => popK (ts.getD 0 0) st [] (fun as st => match as with
    | .ref r :: _ => cond (Nat.beq (clT r) (owT a)) (cond (Nat.ble (catS st) 8) (Cl k a as M o (fun v M' o' k' => nx ls (match v with | some x => x :: st | none => st) M' o' k') (fun E M' o' k' => thr E ls M' o' k')) False) False
    | _ => False)
  | .invokestatic _ => (match ts.getD 1 0 with
    | 1 => popI st (fun y st => popI st (fun x st => cond (Nat.beq k 0 && Nat.ble (catS st) 8) (nx ls (.int (if x < y then y else x) :: st) M o k) False))
    | 2 => popI st (fun y st => popI st (fun x st => cond (Nat.beq k 0 && Nat.ble (catS st) 8) (nx ls (.int (if y < x then y else x) :: st) M o k) False))
    | _ => popK (ts.getD 0 0) st [] (fun as st => cond (Nat.ble (catS st) 8) (Cl k a as M o (fun v M' o' k' => nx ls (match v with | some x => x :: st | none => st) M' o' k') (fun E M' o' k' => thr E ls M' o' k')) False))
  | .new _ => cond (Nat.ble (catS st) 8) (tho (TL a).1 M o (k + 1)) False
  | .ireturn => (match st with
    | [.int x] => (match a with | 0 => ret (some (.int x)) M o k | _ => bz x ∧ ret (some (.int x)) M o k)
    | _ => False)
  | .lreturn => (match st with
    | [.long x] => ret (some (.long x)) M o k
    | _ => False)
  | .return_ => (match st with
    | [] => ret none M o k
    | _ => False)
  | _ => False
def exec : List En → NX
  | [] => fun _ _ _ _ _ => False
  | (i, a, v, ts) :: r => fun ls st M o k => step G ret tho thr Cl sc i a v ts ls st M o k (exec r)
end EX
theorem popI_e {st : List Value} {f : Int32 → List Value → Prop} (h : popI st f) : ∃ x r, st = .int x :: r ∧ f x r := by
  unfold popI at h
  split at h
  · exact ⟨_, _, rfl, h⟩
  · exact h.elim
theorem popL_e {st : List Value} {f : Int64 → List Value → Prop} (h : popL st f) : ∃ x r, st = .long x :: r ∧ f x r := by
  unfold popL at h
  split at h
  · exact ⟨_, _, rfl, h⟩
  · exact h.elim
theorem popR_e {st : List Value} {f : Nat → List Value → Prop} (h : popR st f) : ∃ x r, st = .ref x :: r ∧ f x r := by
  unfold popR at h
  split at h
  · exact ⟨_, _, rfl, h⟩
  · exact h.elim
theorem ldI_e {ls : Lv} {a : Nat} {f : Int32 → Prop} (h : ldI ls a f) : ∃ x, ldv ls a = some (.int x) ∧ f x := by
  unfold ldI at h
  split at h
  · rename_i x e; exact ⟨x, e, h⟩
  · exact h.elim
theorem ldL_e {ls : Lv} {a : Nat} {f : Int64 → Prop} (h : ldL ls a f) : ∃ x, ldv ls a = some (.long x) ∧ f x := by
  unfold ldL at h
  split at h
  · rename_i x e; exact ⟨x, e, h⟩
  · exact h.elim
theorem ldR_e {ls : Lv} {a : Nat} {f : Nat → Prop} (h : ldR ls a f) : ∃ x, ldv ls a = some (.ref x) ∧ f x := by
  unfold ldR at h
  split at h
  · rename_i x e; exact ⟨x, e, h⟩
  · exact h.elim
theorem noLK_e {x : Option Value} {f : Option Value → Prop} (h : noLK x f) : f (noL x) := by
  unfold noLK at h
  split at h <;> first | exact h | exact h.elim
theorem stK_e : ∀ {ls : Lv} {a : Nat} {v : Option Value} {f : Lv → Prop}, stK ls a v f → f (setv ls a v) ∧ a < ls.length ∧ (setv ls a v).length = ls.length := by
  intro ls
  induction ls with
  | nil => intro a v f h; cases a <;> exact h.elim
  | cons x t ih =>
    intro a v f h
    cases a with
    | zero => exact ⟨h, by simp, by simp [setv]⟩
    | succ i =>
      cases i with
      | zero =>
        have h := noLK_e (show noLK x (fun y => stK t 0 v (fun t' => f (y :: t'))) from h)
        obtain ⟨h1, h2, h3⟩ := ih h
        exact ⟨h1, by simpa using h2, by simp [setv] at h3 ⊢; exact h3⟩
      | succ i =>
        obtain ⟨h1, h2, h3⟩ := ih (show stK t (i + 1) v (fun t' => f (x :: t')) from h)
        exact ⟨h1, by simpa using h2, by simp [setv] at h3 ⊢; exact h3⟩
theorem clK_e : ∀ {ls : Lv} {a : Nat} {f : Lv → Prop}, clK ls a f → f (clv ls a) ∧ a < ls.length ∧ (clv ls a).length = ls.length := by
  intro ls
  induction ls with
  | nil => intro a f h; cases a <;> exact h.elim
  | cons x t ih =>
    intro a f h
    cases a with
    | zero => exact ⟨h, by simp, by simp [clv]⟩
    | succ i =>
      obtain ⟨h1, h2, h3⟩ := ih (show clK t i (fun t' => f (x :: t')) from h)
      exact ⟨h1, by simpa using h2, by simp [clv] at h3 ⊢; exact h3⟩
theorem popK_e : ∀ {n : Nat} {st acc : List Value} {f : List Value → List Value → Prop}, popK n st acc f → ∃ as r, as.length = n ∧ st = as.reverse ++ r ∧ f (as ++ acc) r := by
  intro n
  induction n with
  | zero => intro st acc f h; exact ⟨[], st, rfl, rfl, h⟩
  | succ n ih =>
    intro st acc f h
    cases st with
    | nil => exact h.elim
    | cons x st =>
      obtain ⟨as, r, h1, h2, h3⟩ := ih (show popK n st (x :: acc) f from h)
      exact ⟨as ++ [x], r, by simp [h1], by simp [h2], by simpa using h3⟩
theorem nthK_e : ∀ {l : List Nat} {k : Nat} {f : Nat → Prop}, nthK l k f → ∃ x, l[k]? = some x ∧ f x := by
  intro l
  induction l with
  | nil => intro k f h; cases k <;> exact h.elim
  | cons x t ih =>
    intro k f h
    cases k with
    | zero => exact ⟨x, rfl, h⟩
    | succ k => exact ih (show nthK t k f from h)
theorem cond_e {b : Bool} {P : Prop} (h : cond b P False) : b = true ∧ P := by
  cases b
  · exact h.elim
  · exact ⟨rfl, h⟩
theorem setv_at : ∀ {ls : Lv} {a i : Nat} {v : Option Value} {u : Value}, ldv (setv ls a v) i = some u → (i = a ∧ v = some u) ∨ (i ≠ a ∧ ldv ls i = some u ∧ ¬ (i + 1 = a ∧ u.category = 2)) := by
  intro ls
  induction ls with
  | nil => intro a i v u h; cases a <;> simp [setv, ldv] at h
  | cons x t ih =>
    intro a i v u h
    cases a with
    | zero =>
      cases i with
      | zero => exact Or.inl ⟨rfl, h⟩
      | succ i => exact Or.inr ⟨by simp, h, by omega⟩
    | succ a =>
      cases i with
      | zero =>
        right
        cases a with
        | zero =>
          refine ⟨by simp, ?_, ?_⟩
          · simp only [setv, ldv] at h ⊢
            unfold noL at h
            split at h <;> first | exact h | cases h
          · rintro ⟨-, hc⟩
            simp only [setv, ldv] at h
            unfold noL at h
            split at h
            · cases h
            · cases h
            · rename_i h1 h2
              cases u <;> first | exact h1 _ h | exact h2 _ h | simp [Value.category] at hc
        | succ a => exact ⟨by simp, h, by omega⟩
      | succ i =>
        rcases ih (show ldv (setv t a v) i = some u from h) with ⟨e1, e2⟩ | ⟨e1, e2, e3⟩
        · exact Or.inl ⟨by omega, e2⟩
        · exact Or.inr ⟨by omega, e2, by rintro ⟨q1, q2⟩; exact e3 ⟨by omega, q2⟩⟩
theorem clv_at : ∀ {ls : Lv} {a i : Nat} {u : Value}, ldv (clv ls a) i = some u → i ≠ a ∧ ldv ls i = some u := by
  intro ls
  induction ls with
  | nil => intro a i u h; cases a <;> simp [clv, ldv] at h
  | cons x t ih =>
    intro a i u h
    cases a with
    | zero =>
      cases i with
      | zero => simp [clv, ldv] at h
      | succ i => exact ⟨by simp, h⟩
    | succ a =>
      cases i with
      | zero => exact ⟨by simp, h⟩
      | succ i =>
        obtain ⟨e1, e2⟩ := ih (show ldv (clv t a) i = some u from h)
        exact ⟨by omega, e2⟩
theorem ldv_lt : ∀ {ls : Lv} {i : Nat} {u : Value}, ldv ls i = some u → i < ls.length := by
  intro ls
  induction ls with
  | nil => intro i u h; cases i <;> simp [ldv] at h
  | cons x t ih =>
    intro i u h
    cases i with
    | zero => simp
    | succ i => simpa using ih (show ldv t i = some u from h)
