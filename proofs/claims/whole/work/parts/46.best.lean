/-! MOUNTS, the numbers: which shares are best. -/
def cnG (x : Nat → Nat) (t n : Nat) : Nat := cnB (fun k => decide (t ≤ x k)) n
def LxC (n : Nat) (x y : Nat → Nat) : Prop := ∃ t, cnG x t n < cnG y t n ∧ ∀ t', t < t' → cnG x t' n = cnG y t' n
def EqC (n : Nat) (x y : Nat → Nat) : Prop := ∀ t, cnG x t n = cnG y t n
theorem LxC.trans {n : Nat} {x y z : Nat → Nat} (h1 : LxC n x y) (h2 : LxC n y z) : LxC n x z := by
  obtain ⟨t1, a1, b1⟩ := h1
  obtain ⟨t2, a2, b2⟩ := h2
  rcases Nat.lt_trichotomy t1 t2 with q | q | q
  · exact ⟨t2, by rw [b1 t2 q]; exact a2, fun t' h => by rw [b1 t' (by omega), b2 t' h]⟩
  · subst q; exact ⟨t1, by omega, fun t' h => by rw [b1 t' h, b2 t' h]⟩
  · exact ⟨t1, by rw [← b2 t1 q]; exact a1, fun t' h => by rw [b1 t' h, b2 t' (by omega)]⟩
theorem LxC.eq_r {n : Nat} {x y z : Nat → Nat} (h1 : LxC n x y) (h2 : EqC n y z) : LxC n x z := by
  obtain ⟨t, a, b⟩ := h1
  exact ⟨t, by rw [← h2 t]; exact a, fun t' h => by rw [b t' h, h2 t']⟩
theorem LxC.eq_l {n : Nat} {x y z : Nat → Nat} (h1 : EqC n x y) (h2 : LxC n y z) : LxC n x z := by
  obtain ⟨t, a, b⟩ := h2
  exact ⟨t, by rw [h1 t]; exact a, fun t' h => by rw [h1 t', b t' h]⟩
theorem LxC.ne {n : Nat} {x y : Nat → Nat} (h1 : LxC n x y) (h2 : EqC n x y) : False := by
  obtain ⟨t, a, _⟩ := h1
  have := h2 t
  omega
theorem LxC.asym {n : Nat} {x y : Nat → Nat} (h1 : LxC n x y) (h2 : LxC n y x) : False := (h1.trans h2).ne (fun _ => rfl)
theorem cnB_congr {P P' : Nat → Bool} : ∀ {n}, (∀ k, k < n → P k = P' k) → cnB P n = cnB P' n := by
  intro n
  induction n with
  | zero => intro _; rfl
  | succ n ih => intro h; simp only [cnB]; rw [ih (fun k hk => h k (by omega)), h n (by omega)]
theorem cnB_mono {P P' : Nat → Bool} : ∀ {n}, (∀ k, k < n → P k = true → P' k = true) → cnB P n ≤ cnB P' n := by
  intro n
  induction n with
  | zero => intro _; exact Nat.le_refl _
  | succ n ih =>
    intro h
    have h1 := ih (fun k hk => h k (by omega))
    have h2 := h n (by omega)
    simp only [cnB]
    by_cases hp : P n = true
    · rw [if_pos hp, if_pos (h2 hp)]; omega
    · rw [if_neg hp]; omega
theorem cnB_lt {P P' : Nat → Bool} : ∀ {n}, (∀ k, k < n → P k = true → P' k = true) → (∃ k, k < n ∧ P k = false ∧ P' k = true) → cnB P n < cnB P' n := by
  intro n
  induction n with
  | zero => rintro _ ⟨k, hk, _⟩; omega
  | succ n ih =>
    rintro h ⟨k, hk, a, b⟩
    have h1 := cnB_mono (n := n) (fun k hk => h k (by omega))
    simp only [cnB]
    by_cases q : k = n
    · subst q
      rw [a, b]
      simp
      omega
    · have h2 := ih (fun k hk => h k (by omega)) ⟨k, by omega, a, b⟩
      have h3 := h n (by omega)
      by_cases hp : P n = true
      · rw [if_pos hp, if_pos (h3 hp)]; omega
      · rw [if_neg hp]; omega
theorem exmax (f : Nat → Nat) (P : Nat → Prop) : ∀ n, (∃ k, k < n ∧ P k) → ∃ k, k < n ∧ P k ∧ ∀ j, j < n → P j → f j ≤ f k := by
  intro n
  induction n with
  | zero => rintro ⟨k, hk, _⟩; omega
  | succ n ih =>
    rintro ⟨k, hk, hp⟩
    by_cases hn : P n
    · by_cases he : ∃ k, k < n ∧ P k
      · obtain ⟨k, hk, hp, hm⟩ := ih he
        by_cases hf : f k ≤ f n
        · refine ⟨n, by omega, hn, fun j hj hpj => ?_⟩
          by_cases q : j = n
          · subst q; exact Nat.le_refl _
          · exact Nat.le_trans (hm j (by omega) hpj) hf
        · refine ⟨k, by omega, hp, fun j hj hpj => ?_⟩
          by_cases q : j = n
          · subst q; omega
          · exact hm j (by omega) hpj
      · refine ⟨n, by omega, hn, fun j hj hpj => ?_⟩
        by_cases q : j = n
        · subst q; exact Nat.le_refl _
        · exact absurd ⟨j, by omega, hpj⟩ he
    · have hk2 : k < n := by
        rcases Nat.lt_or_ge k n with w | w
        · exact w
        · exact absurd (by rw [show n = k by omega]; exact hp) hn
      obtain ⟨k, hk, hp, hm⟩ := ih ⟨k, hk2, hp⟩
      refine ⟨k, by omega, hp, fun j hj hpj => ?_⟩
      by_cases q : j = n
      · subst q; exact absurd hpj hn
      · exact hm j (by omega) hpj
/-- no ride above the threshold: above it only the levels count -/
theorem cn_above {n th t : Nat} {Q v : Nat → Nat} (h : ∀ k, k < n → 0 < v k → Q k + v k ≤ th + 1) (ht : th + 1 < t) : cnG (fun k => Q k + v k) t n = cnG Q t n := by
  refine cnB_congr (fun k hk => decide_eq_decide.mpr ?_)
  have := h k hk
  show t ≤ Q k + v k ↔ t ≤ Q k
  omega
theorem Tc.top {n th R : Nat} {Q C v : Nat → Nat} (h : Tc n (dF0 Q C th) (sF0 Q C th) R v) : ∀ k, k < n → 0 < v k → Q k + v k ≤ th + 1 := by
  intro k hk hp
  have a := (h.1 k hk).2
  unfold dF0 sF0 bI at a
  by_cases hs : Q k ≤ th ∧ th < Q k + C k
  · rw [decide_eq_true hs] at a; simp at a; omega
  · rw [decide_eq_false hs] at a; simp at a; omega
theorem cn_at {n th : Nat} {Q C v : Nat → Nat} (hvC : ∀ k, k < n → v k ≤ C k) (h : ∀ k, k < n → 0 < v k → Q k + v k ≤ th + 1) : cnG (fun k => Q k + v k) (th + 1) n = cnG Q (th + 1) n + cnB (fun k => decide (v k = dF0 Q C th k + 1)) n := by
  unfold cnG
  induction n with
  | zero => rfl
  | succ n ih =>
    simp only [cnB]
    rw [ih (fun k hk => hvC k (by omega)) (fun k hk => h k (by omega))]
    have h1 := h n (by omega)
    have h2 := hvC n (by omega)
    have hd : dF0 Q C th n = min (C n) (th - Q n) := rfl
    by_cases hq : th + 1 ≤ Q n
    · rw [if_pos (decide_eq_true (by omega)), if_pos (decide_eq_true hq), if_neg (by rw [decide_eq_false (by omega)]; decide)]
      omega
    · by_cases hv : th + 1 ≤ Q n + v n
      · rw [if_pos (decide_eq_true hv), if_neg (by rw [decide_eq_false hq]; decide), if_pos (decide_eq_true (by omega))]
        omega
      · rw [if_neg (by rw [decide_eq_false hv]; decide), if_neg (by rw [decide_eq_false hq]; decide), if_neg (by rw [decide_eq_false (by omega)]; decide)]
        omega
theorem Tc.le {n th R : Nat} {Q C v : Nat → Nat} (h : Tc n (dF0 Q C th) (sF0 Q C th) R v) : ∀ k, k < n → v k ≤ C k := by
  intro k hk
  have a := (h.1 k hk).2
  unfold dF0 sF0 bI at a
  by_cases hs : Q k ≤ th ∧ th < Q k + C k
  · rw [decide_eq_true hs] at a; simp at a; omega
  · rw [decide_eq_false hs] at a; simp at a; omega
theorem Tc.ex {n th R : Nat} {Q C v : Nat → Nat} (h : Tc n (dF0 Q C th) (sF0 Q C th) R v) : sumN (dF0 Q C th) n + cnB (fun k => decide (v k = dF0 Q C th k + 1)) n = R := by
  rw [← sumN_bI, ← sumN_add, ← h.2]
  refine sumN_congr (fun k hk => ?_)
  have a := h.1 k hk
  have hb : bI (sF0 Q C th k) ≤ 1 := by unfold bI; split <;> omega
  show dF0 Q C th k + bI (decide (v k = dF0 Q C th k + 1)) = v k
  by_cases hv : v k = dF0 Q C th k + 1
  · rw [decide_eq_true hv]; show _ + 1 = _; omega
  · rw [decide_eq_false hv]; show _ + 0 = _; omega
theorem best_eq {n th R : Nat} {Q C v d : Nat → Nat} (hv : Tc n (dF0 Q C th) (sF0 Q C th) R v) (hd : Tc n (dF0 Q C th) (sF0 Q C th) R d) : EqC n (fun k => Q k + v k) (fun k => Q k + d k) := by
  intro t
  rcases Nat.lt_trichotomy t (th + 1) with q | q | q
  · have : ∀ w : Nat → Nat, Tc n (dF0 Q C th) (sF0 Q C th) R w → cnG (fun k => Q k + w k) t n = cnG (fun k => Q k + dF0 Q C th k) t n := by
      intro w hw
      refine cnB_congr (fun k hk => decide_eq_decide.mpr ?_)
      have a := hw.1 k hk
      have b := hw.le k hk
      have hdd : dF0 Q C th k = min (C k) (th - Q k) := rfl
      show t ≤ Q k + w k ↔ t ≤ Q k + dF0 Q C th k
      omega
    rw [this v hv, this d hd]
  · subst q
    rw [cn_at hv.le hv.top, cn_at hd.le hd.top]
    have a := hv.ex
    have b := hd.ex
    omega
  · rw [cn_above hv.top q, cn_above hd.top q]
theorem best_lt {n th R : Nat} {Q C v d : Nat → Nat} (hd : Tc n (dF0 Q C th) (sF0 Q C th) R d) (hvC : ∀ k, k < n → v k ≤ C k) (hs : sumN v n = R) (hn : ¬ Tc n (dF0 Q C th) (sF0 Q C th) R v) : LxC n (fun k => Q k + d k) (fun k => Q k + v k) := by
  by_cases hi : ∃ k, k < n ∧ (0 < v k ∧ th + 1 < Q k + v k)
  · obtain ⟨k, hk, ⟨hp, hg⟩, hmax⟩ := exmax (fun k => Q k + v k) (fun k => 0 < v k ∧ th + 1 < Q k + v k) n hi
    refine ⟨Q k + v k, ?_, fun t' ht => ?_⟩
    · rw [cn_above hd.top hg]
      refine cnB_lt (fun j hj h => ?_) ⟨k, hk, decide_eq_false (by omega), decide_eq_true (Nat.le_refl _)⟩
      have := of_decide_eq_true h
      exact decide_eq_true (show Q k + v k ≤ Q j + v j by omega)
    · rw [cn_above hd.top (by omega)]
      refine (cnB_congr (fun j hj => decide_eq_decide.mpr ?_)).symm
      show t' ≤ Q j + v j ↔ t' ≤ Q j
      by_cases hj2 : 0 < v j ∧ th + 1 < Q j + v j
      · have : Q j + v j ≤ Q k + v k := hmax j hj hj2
        omega
      · omega
  · have htop : ∀ k, k < n → 0 < v k → Q k + v k ≤ th + 1 := fun k hk hp => Nat.not_lt.mp (fun w => hi ⟨k, hk, hp, w⟩)
    refine ⟨th + 1, ?_, fun t' ht => by rw [cn_above hd.top ht, cn_above htop ht]⟩
    rw [cn_at hd.le hd.top, cn_at hvC htop]
    have a := hd.ex
    have hup : ∀ k, k < n → v k ≤ dF0 Q C th k + bI (decide (v k = dF0 Q C th k + 1)) := by
      intro k hk
      have b1 := htop k hk
      have b2 := hvC k hk
      have hdd : dF0 Q C th k = min (C k) (th - Q k) := rfl
      by_cases hv : v k = dF0 Q C th k + 1
      · rw [decide_eq_true hv]; show _ ≤ _ + 1; omega
      · rw [decide_eq_false hv]; show _ ≤ _ + 0; omega
    have hlow : ∃ k, k < n ∧ v k < dF0 Q C th k := by
      refine Classical.byContradiction (fun hne => hn ⟨fun k hk => ⟨Nat.not_lt.mp (fun w => hne ⟨k, hk, w⟩), ?_⟩, hs⟩)
      have b1 := htop k hk
      have b2 := hvC k hk
      have b3 := hup k hk
      have hdd : dF0 Q C th k = min (C k) (th - Q k) := rfl
      unfold bI
      by_cases hss : Q k ≤ th ∧ th < Q k + C k
      · rw [show sF0 Q C th k = true from decide_eq_true hss]; simp; omega
      · rw [show sF0 Q C th k = false from decide_eq_false hss]; simp; omega
    obtain ⟨k, hk, hlt⟩ := hlow
    have h5 := sumN_one (s := fun k => dF0 Q C th k + bI (decide (v k = dF0 Q C th k + 1))) (u := v) (n := n) hup k hk
    rw [sumN_add, sumN_bI] at h5
    have h6 : 0 < (dF0 Q C th k + bI (decide (v k = dF0 Q C th k + 1))) - v k := by omega
    have h5 : sumN v n + (dF0 Q C th k + bI (decide (v k = dF0 Q C th k + 1)) - v k) ≤ sumN (dF0 Q C th) n + cnB (fun j => decide (v j = dF0 Q C th j + 1)) n := h5
    omega
