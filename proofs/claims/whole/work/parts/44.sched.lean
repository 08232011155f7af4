/-! MOUNTS, the numbers: what can still be completed. -/
def up1 (u : Nat → Nat) (i : Nat) : Nat → Nat := updN u i (u i + 1)
theorem up1_same (u : Nat → Nat) (i : Nat) : up1 u i i = u i + 1 := updN_same _ _ _
theorem up1_ne (u : Nat → Nat) {i j : Nat} (h : j ≠ i) : up1 u i j = u j := updN_ne _ _ h
theorem up1_sum (u : Nat → Nat) {i n : Nat} (h : i < n) : sumN (up1 u i) n = sumN u n + 1 := by
  have := sumN_upd u i (u i + 1) n h
  unfold up1; omega
def Ext (n : Nat) (T : (Nat → Nat) → Prop) : Nat → Option Nat → (Nat → Nat) → Prop
  | 0, _, u => T u
  | m + 1, lo, u => (∃ i, i < n ∧ lo ≠ some i ∧ Ext n T m (some i) (up1 u i)) ∨ Ext n T m none u
def mq (lo : Option Nat) (m j : Nat) : Nat := (if lo = some j then m else m + 1) / 2
def Feas (n : Nat) (T : (Nat → Nat) → Prop) (m : Nat) (lo : Option Nat) (u : Nat → Nat) : Prop := ∃ s, T s ∧ (∀ j, j < n → u j ≤ s j) ∧ sumN s n ≤ sumN u n + m ∧ ∀ j, j < n → s j - u j ≤ mq lo m j
def TX (n : Nat) (T : (Nat → Nat) → Prop) : Prop := ∀ s s', (∀ j, j < n → s j = s' j) → T s → T s'
theorem mq_ge (lo : Option Nat) (m j : Nat) : m / 2 ≤ mq lo m j := by unfold mq; split <;> omega
theorem mq_le (lo : Option Nat) (m j : Nat) : mq lo m j ≤ (m + 1) / 2 := by unfold mq; split <;> omega
theorem mq_ne {lo : Option Nat} {j : Nat} (m : Nat) (h : lo ≠ some j) : mq lo m j = (m + 1) / 2 := by unfold mq; rw [if_neg h]
theorem mq_eq {lo : Option Nat} {j : Nat} (m : Nat) (h : lo = some j) : mq lo m j = m / 2 := by unfold mq; rw [if_pos h]
theorem sumN_one {s u : Nat → Nat} : ∀ {n}, (∀ j, j < n → u j ≤ s j) → ∀ i, i < n → sumN u n + (s i - u i) ≤ sumN s n := by
  intro n
  induction n with
  | zero => intro _ i hi; omega
  | succ n ih =>
    intro h i hi
    show sumN u n + u n + (s i - u i) ≤ sumN s n + s n
    have h1 := h n (by omega)
    by_cases q : i = n
    · subst q
      have := sumN_mono (f := u) (g := s) (n := i) (fun j hj => h j (by omega))
      omega
    · have := ih (fun j hj => h j (by omega)) i (by omega)
      omega
theorem sumN_two {s u : Nat → Nat} : ∀ {n}, (∀ j, j < n → u j ≤ s j) → ∀ i k, i < n → k < n → i ≠ k → sumN u n + (s i - u i) + (s k - u k) ≤ sumN s n := by
  intro n
  induction n with
  | zero => intro _ i k hi; omega
  | succ n ih =>
    intro h i k hi hk hne
    show sumN u n + u n + (s i - u i) + (s k - u k) ≤ sumN s n + s n
    have h1 := h n (by omega)
    by_cases q : i = n
    · subst q
      have := sumN_one (s := s) (u := u) (n := i) (fun j hj => h j (by omega)) k (by omega)
      omega
    · by_cases q2 : k = n
      · subst q2
        have := sumN_one (s := s) (u := u) (n := k) (fun j hj => h j (by omega)) i (by omega)
        omega
      · have := ih (fun j hj => h j (by omega)) i k (by omega) (by omega) hne
        omega
theorem sumN_but {s u : Nat → Nat} (l : Nat) : ∀ {n}, (∀ j, j < n → j ≠ l → s j ≤ u j) → sumN s n ≤ sumN u n + (s l - u l) := by
  intro n
  induction n with
  | zero => intro _; exact Nat.zero_le _
  | succ n ih =>
    intro h
    show sumN s n + s n ≤ sumN u n + u n + (s l - u l)
    by_cases q : n = l
    · subst q
      have := sumN_mono (f := s) (g := u) (n := n) (fun j hj => h j (by omega) (by omega))
      omega
    · have h1 := ih (fun j hj hne => h j (by omega) hne)
      have h2 := h n (by omega) q
      omega
theorem ext_feas {n : Nat} {T : (Nat → Nat) → Prop} (hT : TX n T) : ∀ m lo u, Ext n T m lo u ↔ Feas n T m lo u := by
  intro m
  induction m with
  | zero =>
    intro lo u
    constructor
    · intro h
      exact ⟨u, h, fun j _ => Nat.le_refl _, Nat.le_refl _, fun j _ => by rw [Nat.sub_self]; exact Nat.zero_le _⟩
    · rintro ⟨s, h1, h2, h3, h4⟩
      refine hT s u (fun j hj => ?_) h1
      have a1 := h2 j hj
      have a2 := h4 j hj
      have a3 := mq_le lo 0 j
      omega
  | succ m ih =>
    intro lo u
    constructor
    · rintro (⟨i, hi, hlo, h⟩ | h)
      · obtain ⟨s, h1, h2, h3, h4⟩ := (ih (some i) (up1 u i)).mp h
        rw [up1_sum u hi] at h3
        refine ⟨s, h1, fun j hj => ?_, by omega, fun j hj => ?_⟩
        · have := h2 j hj
          by_cases q : j = i
          · subst q; rw [up1_same] at this; omega
          · rw [up1_ne u q] at this; exact this
        · have a := h4 j hj
          by_cases q : j = i
          · subst q
            rw [up1_same, mq_eq m rfl] at a
            rw [mq_ne (m + 1) hlo]
            omega
          · rw [up1_ne u q, mq_ne m (fun w => q (by cases w; rfl))] at a
            have := mq_ge lo (m + 1) j
            omega
      · obtain ⟨s, h1, h2, h3, h4⟩ := (ih none u).mp h
        refine ⟨s, h1, h2, by omega, fun j hj => ?_⟩
        have a := h4 j hj
        rw [mq_ne m (by intro w; cases w)] at a
        have := mq_ge lo (m + 1) j
        omega
    · rintro ⟨s, h1, h2, h3, h4⟩
      -- to take j next
      have take : ∀ j, j < n → lo ≠ some j → u j < s j → s j - u j ≤ m / 2 + 1 → (∀ k, k < n → k ≠ j → s k - u k ≤ (m + 1) / 2) → Ext n T (m + 1) lo u := by
        intro j hj hlo hlt hb hoth
        refine Or.inl ⟨j, hj, hlo, (ih (some j) (up1 u j)).mpr ⟨s, h1, fun k hk => ?_, by rw [up1_sum u hj]; omega, fun k hk => ?_⟩⟩
        · by_cases q : k = j
          · subst q; rw [up1_same]; omega
          · rw [up1_ne u q]; exact h2 k hk
        · by_cases q : k = j
          · subst q; rw [up1_same, mq_eq m rfl]; omega
          · rw [up1_ne u q, mq_ne m (fun w => q (by cases w; rfl))]; exact hoth k hk q
      by_cases hA : ∃ j, j < n ∧ lo ≠ some j ∧ (m + 1) / 2 < s j - u j
      · obtain ⟨j, hj, hlo, hg⟩ := hA
        have a := h4 j hj
        rw [mq_ne (m + 1) hlo] at a
        refine take j hj hlo (by omega) (by omega) (fun k hk hne => ?_)
        have := sumN_two h2 j k hj hk (fun w => hne w.symm)
        omega
      · have hall : ∀ j, j < n → s j - u j ≤ (m + 1) / 2 := by
          intro j hj
          by_cases hlo : lo = some j
          · have := h4 j hj; rw [mq_eq (m + 1) hlo] at this; exact this
          · exact Nat.not_lt.mp (fun w => hA ⟨j, hj, hlo, w⟩)
        by_cases hB : sumN s n ≤ sumN u n + m
        · exact Or.inr ((ih none u).mpr ⟨s, h1, h2, hB, fun j hj => by rw [mq_ne m (by intro w; cases w)]; exact hall j hj⟩)
        · have hex : ∃ j, j < n ∧ lo ≠ some j ∧ u j < s j := by
            refine Classical.byContradiction (fun hne => ?_)
            have hno : ∀ j, j < n → lo ≠ some j → s j ≤ u j := fun j hj hlo => Nat.not_lt.mp (fun w => hne ⟨j, hj, hlo, w⟩)
            cases hl : lo with
            | none =>
              have := sumN_mono (f := s) (g := u) (n := n) (fun j hj => hno j hj (by rw [hl]; intro w; cases w))
              omega
            | some l =>
              have h5 := sumN_but (s := s) (u := u) l (n := n) (fun j hj hjl => hno j hj (by rw [hl]; intro w; cases w; exact hjl rfl))
              by_cases hln : l < n
              · have := hall l hln
                omega
              · have := sumN_mono (f := s) (g := u) (n := n) (fun j hj => hno j hj (by rw [hl]; intro w; cases w; exact hln hj))
                omega
          obtain ⟨j, hj, hlo, hlt⟩ := hex
          have := hall j hj
          exact take j hj hlo hlt (by omega) (fun k hk _ => hall k hk)
/-- the next is the first with which it can still be completed; none is last -/
def Pk (n : Nat) (T : (Nat → Nat) → Prop) (m : Nat) (lo : Option Nat) (u : Nat → Nat) : Option Nat → Prop
  | some i => i < n ∧ (lo ≠ some i ∧ Ext n T m (some i) (up1 u i)) ∧ ∀ j, j < i → ¬ (lo ≠ some j ∧ Ext n T m (some j) (up1 u j))
  | none => ∀ j, j < n → ¬ (lo ≠ some j ∧ Ext n T m (some j) (up1 u j))
def upO (u : Nat → Nat) : Option Nat → Nat → Nat
  | none => u
  | some i => up1 u i
def Gr (n : Nat) (T : (Nat → Nat) → Prop) : Nat → Option Nat → (Nat → Nat) → List (Option Nat) → Prop
  | 0, _, _, w => w = []
  | m + 1, lo, u, w => ∃ x w', w = x :: w' ∧ Pk n T m lo u x ∧ Gr n T m x (upO u x) w'
theorem Pk_uniq {n : Nat} {T : (Nat → Nat) → Prop} {m : Nat} {lo : Option Nat} {u : Nat → Nat} {x y : Option Nat} (hx : Pk n T m lo u x) (hy : Pk n T m lo u y) : x = y := by
  cases x with
  | none =>
    cases y with
    | none => rfl
    | some j => exact absurd hy.2.1 (hx j hy.1)
  | some i =>
    cases y with
    | none => exact absurd hx.2.1 (hy i hx.1)
    | some j =>
      rcases Nat.lt_trichotomy i j with w | w | w
      · exact absurd hx.2.1 (hy.2.2 i w)
      · rw [w]
      · exact absurd hy.2.1 (hx.2.2 j w)
theorem Gr_uniq {n : Nat} {T : (Nat → Nat) → Prop} : ∀ {m lo u w w'}, Gr n T m lo u w → Gr n T m lo u w' → w = w' := by
  intro m
  induction m with
  | zero => intro lo u w w' h h'; rw [show w = [] from h, show w' = [] from h']
  | succ m ih =>
    intro lo u w w' h h'
    obtain ⟨x, v, rfl, hp, hg⟩ := h
    obtain ⟨x', v', rfl, hp', hg'⟩ := h'
    have := Pk_uniq hp hp'
    subst this
    rw [ih hg hg']
theorem Ext_congr {n : Nat} {T T' : (Nat → Nat) → Prop} (h : ∀ u, T u ↔ T' u) : ∀ m lo u, Ext n T m lo u ↔ Ext n T' m lo u := by
  have : T = T' := funext (fun u => propext (h u))
  subst this
  exact fun _ _ _ => Iff.rfl
/-- what is left when it can be completed: the counts of the whole way are good -/
def cwN (i : Nat) : List (Option Nat) → Nat
  | [] => 0
  | x :: w => (if x = some i then 1 else 0) + cwN i w
theorem Gr_end {n : Nat} {T : (Nat → Nat) → Prop} : ∀ {m lo u w}, Gr n T m lo u w → Ext n T m lo u → T (fun i => u i + cwN i w) := by
  intro m
  induction m with
  | zero =>
    intro lo u w h he
    rw [show w = [] from h]
    exact he
  | succ m ih =>
    intro lo u w h he
    obtain ⟨x, v, rfl, hp, hg⟩ := h
    have hx : Ext n T m x (upO u x) := by
      cases x with
      | none =>
        rcases he with ⟨i, hi, hlo, hh⟩ | hh
        · exact absurd ⟨hlo, hh⟩ (hp i hi)
        · exact hh
      | some i => exact hp.2.1.2
    have := ih hg hx
    have e : (fun i => upO u x i + cwN i v) = (fun i => u i + cwN i (x :: v)) := by
      funext i
      show upO u x i + cwN i v = u i + ((if x = some i then 1 else 0) + cwN i v)
      cases x with
      | none => rw [if_neg (by intro w; cases w)]; show u i + _ = _; omega
      | some k =>
        show up1 u k i + _ = _
        by_cases q : i = k
        · subst q; rw [up1_same, if_pos rfl]; omega
        · rw [up1_ne u q, if_neg (fun w => q (by cases w; rfl))]; omega
    rw [e] at this
    exact this
