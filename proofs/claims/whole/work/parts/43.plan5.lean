/-! CONTRACTS: the plan. -/
def tkDo (D : Nat → Nat) : Option Nat → Nat → Nat
  | none => D
  | some i => tkD D i
def tkSo (D : Nat → Nat) (S : Nat → Bool) : Option Nat → Nat → Bool
  | none => S
  | some i => tkS D S i
def tkdo (D : Nat → Nat) (sd : Nat) : Option Nat → Nat
  | none => sd
  | some i => tkd D sd i
/-- the way that the planner takes -/
def plW (n : Nat) : Nat → Option Nat → (Nat → Nat) → (Nat → Bool) → Nat → List (Option Nat)
  | 0, _, _, _, _ => []
  | m + 1, lo, D, S, sd => fsP (nxB D S sd m n lo) n 0 :: plW n m (fsP (nxB D S sd m n lo) n 0) (tkDo D (fsP (nxB D S sd m n lo) n 0)) (tkSo D S (fsP (nxB D S sd m n lo) n 0)) (tkdo D sd (fsP (nxB D S sd m n lo) n 0))
theorem GI.split {Q C d : Nat → Nat} {n R th : Nat} (h : GI Q C d n R th) (h0 : R = 0 → ∀ j, j < n → C j = 0) : ∀ j, j < n → dF0 Q C th j ≤ d j ∧ d j ≤ dF0 Q C th j + (if sF0 Q C th j = true then 1 else 0) := by
  obtain ⟨h1, h2, h3, h4⟩ := h
  intro j hj
  have hdc := h1 j hj
  rcases h4 with h4 | ⟨⟨i, hi, hp, he⟩, hmax⟩
  · have hc := h0 h4 j hj
    unfold dF0
    omega
  · unfold dF0 sF0
    constructor
    · by_cases hr : d j < C j
      · have := h3 i j hi hj hp hr
        omega
      · omega
    · by_cases hd : 0 < d j
      · have hm := hmax j hj hd
        by_cases hs : Q j ≤ th ∧ th < Q j + C j
        · rw [if_pos (decide_eq_true hs)]; omega
        · rw [if_neg (by rw [decide_eq_false hs]; decide)]; omega
      · omega
theorem tkD_le {D : Nat → Nat} {i : Nat} (j : Nat) : tkD D i j ≤ D j := by
  unfold tkD
  split
  · by_cases q : j = i
    · subst q; rw [updN_same]; omega
    · rw [updN_ne _ _ q]; exact Nat.le_refl _
  · exact Nat.le_refl _
/-- the planner's state in memory, over a base -/
def PSt (B M : Mem) (n : Nat) (D : Nat → Nat) (S : Nat → Bool) (sd : Nat) : Prop := (∀ a, a ≠ 9 → a ≠ 27 → a ≠ 28 → a ≠ 29 → M a = B a) ∧ M 9 6 = nI n ∧ Nv (M 27) D n ∧ Bv (M 28) S n ∧ M 9 8 = nI sd
theorem PSt.take {B M : Mem} {n sd : Nat} {D : Nat → Nat} {S : Nat → Bool} (h : PSt B M n D S sd) (r : Option Nat) : PSt B (ftM M D sd r) n (tkDo D r) (tkSo D S r) (tkdo D sd r) ∧ ftM M D sd r 29 = M 29 := by
  cases r with
  | none => exact ⟨h, rfl⟩
  | some i =>
    obtain ⟨h1, h2, h3, h4, h5⟩ := h
    show PSt B (tkM M D sd i) n (tkD D i) (tkS D S i) (tkd D sd i) ∧ tkM M D sd i 29 = M 29
    unfold tkM tkD tkS tkd
    by_cases hd : 0 < D i
    · rw [if_pos hd, if_pos hd, if_pos hd, if_pos hd]
      exact ⟨⟨fun a a1 a2 a3 a4 => (by simp [mset, a2]; exact h1 a a1 a2 a3 a4), h2, h3.up i _, h4, h5⟩, rfl⟩
    · rw [if_neg hd, if_neg hd, if_neg hd, if_neg hd]
      exact ⟨⟨fun a a1 a2 a3 a4 => (by simp [mset, a1, a3]; exact h1 a a1 a2 a3 a4), h2, h3, h4.up i false, rfl⟩, rfl⟩
theorem PSt.way {B M : Mem} {n sd : Nat} {D : Nat → Nat} {S : Nat → Bool} (h : PSt B M n D S sd) (k : Nat) (x : Int32) : PSt B (mset M 29 k x) n D S sd := by
  obtain ⟨h1, h2, h3, h4, h5⟩ := h
  exact ⟨fun a a1 a2 a3 a4 => (by simp [mset, a4]; exact h1 a a1 a2 a3 a4), h2, h3, h4, h5⟩
/-- a chukka's pony, by its number among the own ones -/
def oW (xs : List Nat) : Option Nat → Int32
  | none => -1
  | some i => nI (ow xs i)
def Frm (S : List Nat) (M M' : Mem) : Prop := ∀ a, a ∉ S → M' a = M a
def PLS : List Nat := [9, 24, 25, 26, 27, 28, 29]
theorem c_X2_plan {l : Launch} (hl : l.stackTraces = false) (M : Mem) (o : Ou) {m N : Nat} {pl rd : Nat → Nat} {Q C : Nat → Nat} {xs : List Nat} (p : Int32) (hm : M 8 4 = nI m) (h60 : m ≤ 60) (h8 : cntN (M 20) p m ≤ 8) (hp : ∀ k, k < m → M 21 k = nI (7 * pl k)) (bp : ∀ k, k < m → pl k < 10000000) (hr : ∀ k, k < m → M 22 k = nI (rd k) ∧ rd k ≤ 2) (hN : N ≤ 6) (h1 : 1 ≤ N) (hxs : xs = ownL (M 20) p m) (hQ : Q = fun j => pl (ow xs j)) (hC : C = fun j => min (cpF (M 23) (M 8 5) rd (ow xs j)) ((N + 1) / 2)) : Ct l 11 0 23 [.ref 9, .ref 8, .int p, .int (nI N)] M o (fun v M' o' => v = none ∧ o' = o ∧ Frm PLS M M' ∧ ∃ d R th, GI Q C d xs.length R th ∧ R ≤ N ∧ (R = N ∨ ∀ j, j < xs.length → ¬ d j < C j) ∧ ∀ k, k < N → M' 29 k = oW xs ((plW xs.length N none (dF0 Q C th) (sF0 Q C th) (R - sumN (dF0 Q C th) xs.length)).getD k none)) nX := by
  have x8 : xs.length ≤ 8 := by rw [hxs, ownL_len]; exact h8
  have xlt : ∀ j, j < xs.length → ow xs j < m := fun j hj => by have := ow_mem hj; rw [hxs] at this; exact (ownL_lt (by rw [hxs]; exact this)).1
  have bQ : ∀ j, j < xs.length → Q j < 10000000 := fun j hj => by rw [hQ]; exact bp _ (xlt j hj)
  have bC : ∀ j, j < xs.length → C j ≤ 2 := fun j hj => by rw [hC]; exact Nat.le_trans (Nat.min_le_left _ _) (cpF_le _ _ _ _)
  have e6 : (if (6 : Int32) < nI N then 6 else nI N) = nI N := if_neg (nI_nlt (a := 6) (b := N) hN (by decide))
  refine ct_plain hl ok23 (by decide) (by decide) rfl rfl (by decide) (Nat.le_of_ble_eq_true rfl) (fun G hG => hG 0 _ _ _ _ _ ?_)
  have hc0 := c_X2_collect hl M o (m := m) (z := (N + 1) / 2) (pl := pl) (rd := rd) p hm h60 h8 hp hr (by omega)
  rw [← hxs] at hc0
  sorry
