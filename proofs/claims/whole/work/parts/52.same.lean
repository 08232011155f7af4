/-! MOUNTS: both find the same way. -/
theorem tb_tc {Q C cap d b : Nat → Nat} {n R th N : Nat} (hg : GI Q C d n R th) (hN : 1 ≤ N) (hR : R ≤ N) (hfull : R = N ∨ ∀ j, j < n → ¬ d j < C j) (hC : ∀ j, j < n → C j = min (cap j) ((N + 1) / 2)) (bc : ∀ j, j < n → cap j ≤ 2) (hR0 : R = 0 → ∀ j, j < n → C j = 0) (hbw : wi n cap b) (hba : adm n N b) (hbo : ∀ v, wi n cap v → adm n N v → Lev n Q b v) : ∀ u, Tb n N Q cap b u ↔ Tc n (dF0 Q C th) (sF0 Q C th) R u := by
  have hd : Tc n (dF0 Q C th) (sF0 Q C th) R d := ⟨hg.split hR0, hg.2.1⟩
  have hle : ∀ u, wi n cap u → adm n N u → ∀ j, j < n → u j ≤ C j := by
    intro u h1 h2 j hj
    have a := h1 j hj
    have b := h2.2 j hj
    have c := bc j hj
    rw [hC j hj]
    rcases b with b | b <;> omega
  have hle' : ∀ u, (∀ j, j < n → u j ≤ C j) → sumN u n ≤ N → wi n cap u ∧ adm n N u := by
    intro u h1 h2
    refine ⟨fun j hj => ?_, h2, fun j hj => ?_⟩
    · have := h1 j hj; rw [hC j hj] at this; omega
    · have := h1 j hj; rw [hC j hj] at this; have := bc j hj; omega
  have hsum : ∀ u, wi n cap u → adm n N u → sumN u n ≤ R := by
    intro u h1 h2
    rcases hfull with w | w
    · rw [w]; exact h2.1
    · rw [← hg.2.1]
      refine sumN_mono (fun j hj => ?_)
      have a := hle u h1 h2 j hj
      have b := w j hj
      omega
  have hdw : wi n cap d ∧ adm n N d := hle' d hg.1 (by rw [hg.2.1]; exact hR)
  have hlev : ∀ u, wi n cap u → adm n N u → Lev n Q d u ∧ (Eqv n Q d u ↔ Tc n (dF0 Q C th) (sF0 Q C th) R u) := by
    intro u h1 h2
    have hs := hsum u h1 h2
    by_cases he : sumN u n = R
    · by_cases ht : Tc n (dF0 Q C th) (sF0 Q C th) R u
      · have := best_eq hd ht
        exact ⟨Or.inr ⟨by rw [he, hg.2.1], Or.inr this⟩, fun _ => ht, fun _ => ⟨by rw [he, hg.2.1], this⟩⟩
      · have := best_lt hd (hle u h1 h2) he ht
        exact ⟨Or.inr ⟨by rw [he, hg.2.1], Or.inl this⟩, fun z => absurd z.2 (fun y => this.ne y), fun z => absurd z ht⟩
    · refine ⟨Or.inl (by rw [hg.2.1]; omega), fun z => ?_, fun z => absurd z.2 he⟩
      have := z.1
      rw [hg.2.1] at this
      exact absurd this he
  have hbd : Eqv n Q b d := by
    have l1 := hbo d hdw.1 hdw.2
    have l2 := (hlev b hbw hba).1
    rcases l1 with l1 | ⟨e1, l1⟩
    · rcases l2 with l2 | ⟨e2, _⟩ <;> omega
    · refine ⟨e1, ?_⟩
      rcases l1 with l1 | l1
      · rcases l2 with l2 | ⟨e2, l2⟩
        · omega
        · rcases l2 with l2 | l2
          · exact absurd l2 (fun z => l1.asym z)
          · exact absurd l2.symm (fun z => l1.ne z)
      · exact l1
  intro u
  constructor
  · rintro ⟨h1, h2, h3⟩
    exact (hlev u h1 h2).2.mp ⟨by rw [h3.1, hbd.1], hbd.2.symm.trans h3.2⟩
  · intro h
    obtain ⟨h1, h2⟩ := hle' u h.le (by rw [h.2]; exact hR)
    have h3 := (hlev u h1 h2).2.mpr h
    exact ⟨h1, h2, by rw [h3.1, hbd.1], hbd.2.trans h3.2⟩
/-- the planner's way and the reference's are one -/
theorem same_way {Q C cap d b : Nat → Nat} {n R th N : Nat} {w : List (Option Nat)} (hg : GI Q C d n R th) (hN : 1 ≤ N) (hR : R ≤ N) (hfull : R = N ∨ ∀ j, j < n → ¬ d j < C j) (hC : ∀ j, j < n → C j = min (cap j) ((N + 1) / 2)) (bc : ∀ j, j < n → cap j ≤ 2) (hbw : wi n cap b) (hba : adm n N b) (hbo : ∀ v, wi n cap v → adm n N v → Lev n Q b v) (hw : Gr n (Tb n N Q cap b) N none (fun _ => 0) w) : plW n N none (dF0 Q C th) (sF0 Q C th) (R - sumN (dF0 Q C th) n) = w ∧ ∀ i, i < n → cwN i w ≤ cap i := by
  have hR0 : R = 0 → ∀ j, j < n → C j = 0 := by
    intro z j hj
    rcases hfull with z2 | z2
    · omega
    · have h1 := z2 j hj
      have h2 := hg.2.1
      have h3 := sumN_one (s := d) (u := fun _ => 0) (n := n) (fun _ _ => Nat.zero_le _) j hj
      rw [sumN_zero (fun _ _ => rfl)] at h3
      have h3 : 0 + (d j - 0) ≤ sumN d n := h3
      omega
  have hT : Tb n N Q cap b = Tc n (dF0 Q C th) (sF0 Q C th) R := funext (fun u => propext (tb_tc hg hN hR hfull hC bc hR0 hbw hba hbo u))
  obtain ⟨he, hp⟩ := plan_gr hg hN hR hfull (fun j hj => by rw [hC j hj]; exact Nat.min_le_right _ _) hR0
  rw [hT] at hw
  refine ⟨Gr_uniq hp hw, fun i hi => ?_⟩
  have h1 := (Gr_end hw he).le i hi
  have h1 : 0 + cwN i w ≤ C i := h1
  rw [hC i hi] at h1
  omega
theorem Gr_len {n : Nat} {T : (Nat → Nat) → Prop} : ∀ {m lo u w}, Gr n T m lo u w → w.length = m := by
  intro m
  induction m with
  | zero => intro lo u w h; rw [show w = [] from h]; rfl
  | succ m ih =>
    intro lo u w h
    obtain ⟨x, v, rfl, _, hg⟩ := h
    rw [List.length_cons, ih hg]
theorem Gr_lt {n : Nat} {T : (Nat → Nat) → Prop} : ∀ {m lo u w}, Gr n T m lo u w → ∀ i, some i ∈ w → i < n := by
  intro m
  induction m with
  | zero => intro lo u w h i hi; rw [show w = [] from h] at hi; exact absurd hi List.not_mem_nil
  | succ m ih =>
    intro lo u w h i hi
    obtain ⟨x, v, rfl, hp, hg⟩ := h
    rcases List.mem_cons.mp hi with z | z
    · subst z; exact hp.1
    · exact ih hg i z
/-- what both sides do with a way: the ponies ridden -/
def rdW (xs : List Nat) : List (Option Nat) → (Nat → Nat) → Nat → Nat
  | [], f => f
  | none :: w, f => rdW xs w f
  | some i :: w, f => rdW xs w (updN f (ow xs i) (f (ow xs i) + 1))
def noW : List (Option Nat) → Nat
  | [] => 0
  | none :: w => noW w + 1
  | some _ :: w => noW w
