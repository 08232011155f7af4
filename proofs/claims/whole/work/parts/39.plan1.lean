/-! CONTRACTS: the planner. Rows of natural numbers. -/
def Nv (f : Nat → Int32) (g : Nat → Nat) (n : Nat) : Prop := ∀ j, j < n → f j = nI (g j)
def Bv (f : Nat → Int32) (g : Nat → Bool) (n : Nat) : Prop := ∀ j, j < n → f j = cond (g j) 1 0
def sumN (g : Nat → Nat) : Nat → Nat
  | 0 => 0
  | n + 1 => sumN g n + g n
def updN (g : Nat → Nat) (i x : Nat) : Nat → Nat := fun j => if j = i then x else g j
def updB (g : Nat → Bool) (i : Nat) (x : Bool) : Nat → Bool := fun j => if j = i then x else g j
theorem Nv.up {f : Nat → Int32} {g : Nat → Nat} {n : Nat} (h : Nv f g n) (i x : Nat) : Nv (upd f i (nI x)) (updN g i x) n := by
  intro j hj
  unfold upd updN
  by_cases q : j = i
  · rw [if_pos q, if_pos q]
  · rw [if_neg q, if_neg q]; exact h j hj
theorem Bv.up {f : Nat → Int32} {g : Nat → Bool} {n : Nat} (h : Bv f g n) (i : Nat) (x : Bool) : Bv (upd f i (cond x 1 0)) (updB g i x) n := by
  intro j hj
  unfold upd updB
  by_cases q : j = i
  · rw [if_pos q, if_pos q]
  · rw [if_neg q, if_neg q]; exact h j hj
theorem i7 : (7 : Int32) = nI 7 := by decide
theorem c_X2_ponyIn {l : Launch} (hl : l.stackTraces = false) (M : Mem) (o : Ou) {k : Nat} (hk : k < 6) : Ct l 8 0 22 [.ref 9, .int (nI k)] M o (rI (M 29 k) M o) nX := by
  refine ct_plain hl ok22 (by decide) (by decide) rfl rfl (by decide) (Nat.le_of_ble_eq_true rfl) (fun G hG => hG 0 _ _ _ _ _ ?_)
  refine ⟨fun h => absurd h (nI_pos (by omega)), fun _ => ⟨fun h => absurd h (nI_ge (a := k) (b := 6) hk (by decide)), fun _ => ⟨vp_in_nI hk (by decide), ?_⟩⟩⟩
  refine hG 11 _ _ _ _ _ ?_
  exact ⟨⟨by rw [nI_clamp (by omega)], rfl, rfl⟩, Nat.le_refl _⟩
theorem c_X2_levelNow {l : Launch} (hl : l.stackTraces = false) (M : Mem) (o : Ou) {n i : Nat} {Q D : Nat → Nat} (hQ : Nv (M 25) (fun j => 7 * Q j) n) (hD : Nv (M 27) D n) (hi : i < n) (hn : n ≤ 8) : Ct l 8 0 27 [.ref 9, .int (nI i)] M o (rI (nI (7 * (Q i + D i))) M o) nX := by
  refine ct_plain hl ok27 (by decide) (by decide) rfl rfl (by decide) (Nat.le_of_ble_eq_true rfl) (fun G hG => hG 0 _ _ _ _ _ ?_)
  refine ⟨vp_in_nI (show i < 8 by omega) (by decide), vp_in_nI (show i < 8 by omega) (by decide), ⟨?_, rfl, rfl⟩, Nat.le_refl _⟩
  rw [nI_clamp (by omega), hQ i hi, hD i hi, i7, pk_mul, nI_add, Nat.mul_add, Nat.mul_comm (D i) 7]
/-- the first of those with room that is lowest -/
def lwF (Q D C : Nat → Nat) : Nat → Option Nat
  | 0 => none
  | n + 1 => if D n < C n then (match lwF Q D C n with
    | none => some n
    | some b => if Q n + D n < Q b + D b then some n else some b) else lwF Q D C n
theorem lwF_lt {Q D C : Nat → Nat} : ∀ {n b : Nat}, lwF Q D C n = some b → b < n ∧ D b < C b := by
  intro n
  induction n with
  | zero => intro b h; cases h
  | succ n ih =>
    intro b h
    unfold lwF at h
    split at h
    · rename_i hr
      split at h
      · cases h; exact ⟨by omega, hr⟩
      · rename_i c hc
        split at h
        · cases h; exact ⟨by omega, hr⟩
        · cases h; have := ih hc; exact ⟨by omega, this.2⟩
    · have := ih h; exact ⟨by omega, this.2⟩
theorem lwF_min {Q D C : Nat → Nat} : ∀ {n b : Nat}, lwF Q D C n = some b → ∀ j, j < n → D j < C j → Q b + D b ≤ Q j + D j := by
  intro n
  induction n with
  | zero => intro b h; cases h
  | succ n ih =>
    intro b h j hj hr
    unfold lwF at h
    split at h
    · split at h
      · rename_i hc
        cases h
        by_cases q : j = n
        · subst q; exact Nat.le_refl _
        · exfalso
          -- none before
          have : ∀ m, lwF Q D C m = none → ∀ j, j < m → ¬ D j < C j := by
            intro m
            induction m with
            | zero => intro _ j hj; omega
            | succ m ihm =>
              intro hm j hj
              unfold lwF at hm
              split at hm
              · split at hm
                · cases hm
                · split at hm <;> cases hm
              · rename_i hnr
                by_cases q : j = m
                · subst q; exact hnr
                · exact ihm hm j (by omega)
          exact this n hc j (by omega) hr
      · rename_i c hc
        have hcl := lwF_lt hc
        split at h
        · cases h
          by_cases q : j = n
          · subst q; exact Nat.le_refl _
          · have := ih hc j (by omega) hr; omega
        · cases h
          by_cases q : j = n
          · subst q; omega
          · exact ih hc j (by omega) hr
    · rename_i hnr
      by_cases q : j = n
      · subst q; exact absurd hr hnr
      · exact ih h j (by omega) hr
theorem lwF_none {Q D C : Nat → Nat} : ∀ {n : Nat}, lwF Q D C n = none → ∀ j, j < n → ¬ D j < C j := by
  intro m
  induction m with
  | zero => intro _ j hj; omega
  | succ m ihm =>
    intro hm j hj
    unfold lwF at hm
    split at hm
    · split at hm
      · cases hm
      · split at hm <;> cases hm
    · rename_i hnr
      by_cases q : j = m
      · subst q; exact hnr
      · exact ihm hm j (by omega)
theorem c_X2_lowestWithRoom {l : Launch} (hl : l.stackTraces = false) (M : Mem) (o : Ou) {n : Nat} {Q D C : Nat → Nat} (hn : n ≤ 8) (hf : M 9 6 = nI n) (hQ : Nv (M 25) (fun j => 7 * Q j) n) (hD : Nv (M 27) D n) (hC : Nv (M 26) C n) (bQ : ∀ j, j < n → Q j < 10000000) (bD : ∀ j, j < n → D j ≤ 2) (bC : ∀ j, j < n → C j ≤ 2) : Ct l 9 0 26 [.ref 9] M o (rI (oI (lwF Q D C n)) M o) nX := by
  refine ct_plain hl ok26 (by decide) (by decide) rfl rfl (by decide) (Nat.le_of_ble_eq_true rfl) (fun G hG => hG 0 _ _ _ _ _ ?_)
  have key : ∀ m j, j + m = n → G 5 [some (.ref 9), some (.int (oI (lwF Q D C j))), some (.int (nI j))] [] M o 0 := by
    intro m
    induction m with
    | zero =>
      intro j hj
      refine hG 5 _ _ _ _ _ ?_
      refine ⟨fun _ => ?_, fun h => absurd (by rw [hf]; exact nI_le (by omega) (by omega)) h⟩
      refine hG 32 _ _ _ _ _ ?_
      rw [show j = n by omega]
      exact ⟨⟨rfl, rfl, rfl⟩, Nat.le_refl _⟩
    | succ m ih =>
      intro j hj
      have hlt : j < n := by omega
      have hnx := ih (j + 1) (by omega)
      rw [← nI_1] at hnx
      have bq := bQ j hlt
      have bd := bD j hlt
      have bc := bC j hlt
      refine hG 5 _ _ _ _ _ ?_
      refine ⟨fun h => absurd (by rw [← hf]; exact h) (nI_ge (a := j) (b := n) (by omega) (by omega)), fun _ => ⟨vp_in_nI (show j < 8 by omega) (by decide), vp_in_nI (show j < 8 by omega) (by decide), ?_⟩⟩
      rw [nI_clamp (by omega), hD j hlt, hC j hlt]
      refine ⟨fun h => ?_, fun h => ?_⟩
      · refine hG 30 _ _ _ _ _ ?_
        have h : C j ≤ D j := (nI_leI (by omega) (by omega)).mp h
        have e : lwF Q D C (j + 1) = lwF Q D C j := by show (if _ then _ else _) = _; rw [if_neg (by omega)]
        rw [e] at hnx
        exact hnx
      · have h : D j < C j := Nat.not_le.mp (fun q => h (nI_le q (by omega)))
        have e : lwF Q D C (j + 1) = (match lwF Q D C j with
          | none => some j
          | some b => if Q j + D j < Q b + D b then some j else some b) := by show (if _ then _ else _) = _; rw [if_pos h]
        rw [e] at hnx
        refine ⟨fun h2 => ?_, fun h2 => ?_⟩
        · refine hG 28 _ _ _ _ _ ?_
          cases hr : lwF Q D C j with
          | none => rw [hr] at hnx; exact hnx
          | some b => rw [hr] at h2; exact absurd h2 (im1 b (by have := lwF_lt hr; omega))
        · cases hr : lwF Q D C j with
          | none => rw [hr] at h2; exact absurd rfl h2
          | some b =>
            rw [hr] at hnx h2
            have hb := lwF_lt hr
            have bqb := bQ b (by omega)
            have bdb := bD b (by omega)
            refine clI (c_X2_levelNow hl M o hQ hD hlt hn) (by decide) (by decide) (clI (c_X2_levelNow hl M o hQ hD (by omega) hn) (by decide) (by decide) ⟨fun h3 => ?_, fun h3 => ?_⟩)
            · refine hG 30 _ _ _ _ _ ?_
              have h3 : 7 * (Q b + D b) ≤ 7 * (Q j + D j) := (nI_leI (by omega) (by omega)).mp h3
              have hnx : G 5 [some (.ref 9), some (.int (oI (if Q j + D j < Q b + D b then some j else some b))), some (.int (nI j + 1))] [] M o 0 := hnx
              rw [if_neg (by omega)] at hnx
              exact hnx
            · have h3 : 7 * (Q j + D j) < 7 * (Q b + D b) := Nat.not_le.mp (fun q => h3 (nI_le q (by omega)))
              have hnx : G 5 [some (.ref 9), some (.int (oI (if Q j + D j < Q b + D b then some j else some b))), some (.int (nI j + 1))] [] M o 0 := hnx
              rw [if_pos (by omega)] at hnx
              exact hnx
  exact key n 0 (by omega)
