/-! CONTRACTS: the plan. -/
def tkDo (D : Nat → Nat) : Option Nat → Nat → Nat
  | none => D
  | some i => tkD D i
def tkSo (D : Nat → Nat) (S : Nat → Bool) : Option Nat → Nat → Bool
  | none => S
  | some i => tkS D S i
def tkdo (D : Nat → Nat) (sd : Nat) : Option Nat → Nat
  | none => sd
  | some i => tkd D sd i
/-- the way that the planner takes -/
def plW (n : Nat) : Nat → Option Nat → (Nat → Nat) → (Nat → Bool) → Nat → List (Option Nat)
  | 0, _, _, _, _ => []
  | m + 1, lo, D, S, sd => fsP (nxB D S sd m n lo) n 0 :: plW n m (fsP (nxB D S sd m n lo) n 0) (tkDo D (fsP (nxB D S sd m n lo) n 0)) (tkSo D S (fsP (nxB D S sd m n lo) n 0)) (tkdo D sd (fsP (nxB D S sd m n lo) n 0))
theorem GI.split {Q C d : Nat → Nat} {n R th : Nat} (h : GI Q C d n R th) (h0 : R = 0 → ∀ j, j < n → C j = 0) : ∀ j, j < n → dF0 Q C th j ≤ d j ∧ d j ≤ dF0 Q C th j + (if sF0 Q C th j = true then 1 else 0) := by
  obtain ⟨h1, h2, h3, h4⟩ := h
  intro j hj
  have hdc := h1 j hj
  rcases h4 with h4 | ⟨⟨i, hi, hp, he⟩, hmax⟩
  · have hc := h0 h4 j hj
    unfold dF0
    omega
  · unfold dF0 sF0
    constructor
    · by_cases hr : d j < C j
      · have := h3 i j hi hj hp hr
        omega
      · omega
    · by_cases hd : 0 < d j
      · have hm := hmax j hj hd
        by_cases hs : Q j ≤ th ∧ th < Q j + C j
        · rw [if_pos (decide_eq_true hs)]; omega
        · rw [if_neg (by rw [decide_eq_false hs]; decide)]; omega
      · omega
theorem tkD_le {D : Nat → Nat} {i : Nat} (j : Nat) : tkD D i j ≤ D j := by
  unfold tkD
  split
  · by_cases q : j = i
    · subst q; rw [updN_same]; omega
    · rw [updN_ne _ _ q]; exact Nat.le_refl _
  · exact Nat.le_refl _
/-- the planner's state in memory, over a base -/
def PSt (B M : Mem) (n : Nat) (D : Nat → Nat) (S : Nat → Bool) (sd : Nat) : Prop := (∀ a, a ≠ 9 → a ≠ 27 → a ≠ 28 → a ≠ 29 → M a = B a) ∧ M 9 6 = nI n ∧ Nv (M 27) D n ∧ Bv (M 28) S n ∧ M 9 8 = nI sd
theorem PSt.take {B M : Mem} {n sd : Nat} {D : Nat → Nat} {S : Nat → Bool} (h : PSt B M n D S sd) (r : Option Nat) : PSt B (ftM M D sd r) n (tkDo D r) (tkSo D S r) (tkdo D sd r) ∧ ftM M D sd r 29 = M 29 := by
  cases r with
  | none => exact ⟨h, rfl⟩
  | some i =>
    obtain ⟨h1, h2, h3, h4, h5⟩ := h
    show PSt B (tkM M D sd i) n (tkD D i) (tkS D S i) (tkd D sd i) ∧ tkM M D sd i 29 = M 29
    unfold tkM tkD tkS tkd
    by_cases hd : 0 < D i
    · rw [if_pos hd, if_pos hd, if_pos hd, if_pos hd]
      exact ⟨⟨fun a a1 a2 a3 a4 => (by simp [mset, a2]; exact h1 a a1 a2 a3 a4), h2, h3.up i _, h4, h5⟩, rfl⟩
    · rw [if_neg hd, if_neg hd, if_neg hd, if_neg hd]
      exact ⟨⟨fun a a1 a2 a3 a4 => (by simp [mset, a1, a3]; exact h1 a a1 a2 a3 a4), h2, h3, h4.up i false, rfl⟩, rfl⟩
theorem PSt.way {B M : Mem} {n sd : Nat} {D : Nat → Nat} {S : Nat → Bool} (h : PSt B M n D S sd) (k : Nat) (x : Int32) : PSt B (mset M 29 k x) n D S sd := by
  obtain ⟨h1, h2, h3, h4, h5⟩ := h
  exact ⟨fun a a1 a2 a3 a4 => (by simp [mset, a4]; exact h1 a a1 a2 a3 a4), h2, h3, h4, h5⟩
/-- a chukka's pony, by its number among the own ones -/
def oW (xs : List Nat) : Option Nat → Int32
  | none => -1
  | some i => nI (ow xs i)
def Frm (S : List Nat) (M M' : Mem) : Prop := ∀ a, a ∉ S → M' a = M a
def PLS : List Nat := [9, 24, 25, 26, 27, 28, 29]
theorem c_X2_plan {l : Launch} (hl : l.stackTraces = false) (M : Mem) (o : Ou) {m N : Nat} {pl rd : Nat → Nat} {Q C : Nat → Nat} {xs : List Nat} (p : Int32) (hm : M 8 4 = nI m) (h60 : m ≤ 60) (h8 : cntN (M 20) p m ≤ 8) (hp : ∀ k, k < m → M 21 k = nI (7 * pl k)) (bp : ∀ k, k < m → pl k < 10000000) (hr : ∀ k, k < m → M 22 k = nI (rd k) ∧ rd k ≤ 2) (hN : N ≤ 6) (h1 : 1 ≤ N) (hxs : xs = ownL (M 20) p m) (hQ : Q = fun j => pl (ow xs j)) (hC : C = fun j => min (cpF (M 23) (M 8 5) rd (ow xs j)) ((N + 1) / 2)) : Ct l 11 0 23 [.ref 9, .ref 8, .int p, .int (nI N)] M o (fun v M' o' => v = none ∧ o' = o ∧ Frm PLS M M' ∧ ∃ d R th, GI Q C d xs.length R th ∧ R ≤ N ∧ (R = N ∨ ∀ j, j < xs.length → ¬ d j < C j) ∧ ∀ k, k < N → M' 29 k = oW xs ((plW xs.length N none (dF0 Q C th) (sF0 Q C th) (R - sumN (dF0 Q C th) xs.length)).getD k none)) nX := by
  have x8 : xs.length ≤ 8 := by rw [hxs, ownL_len]; exact h8
  have xlt : ∀ j, j < xs.length → ow xs j < m := fun j hj => by have := ow_mem hj; rw [hxs] at this; exact (ownL_lt (by rw [hxs]; exact this)).1
  have bQ : ∀ j, j < xs.length → Q j < 10000000 := fun j hj => by rw [hQ]; exact bp _ (xlt j hj)
  have bC : ∀ j, j < xs.length → C j ≤ 2 := fun j hj => by rw [hC]; exact Nat.le_trans (Nat.min_le_left _ _) (cpF_le _ _ _ _)
  have e6 : (if (6 : Int32) < nI N then 6 else nI N) = nI N := if_neg (nI_nlt (a := 6) (b := N) hN (by decide))
  refine ct_plain hl ok23 (by decide) (by decide) rfl rfl (by decide) (Nat.le_of_ble_eq_true rfl) (fun G hG => hG 0 _ _ _ _ _ ?_)
  have eh : (nI N + 1) / 2 = nI ((N + 1) / 2) := by rw [nI_1, i2]; exact pk_div (by omega) (by decide) (by decide)
  have hc0 := c_X2_collect hl M o (m := m) (z := (N + 1) / 2) (pl := pl) (rd := rd) p hm h60 h8 hp hr (by omega)
  rw [← hxs] at hc0
  refine ⟨by decide, ?_⟩
  rw [e6, eh]
  refine clP hc0 (by decide) (by decide) (fun v M' o' q => ?_) (fun _ _ _ q => q.elim)
  obtain ⟨rfl, rfl, a, b, c, rfl, ha, hb, hcc⟩ := q
  have hb : Nv b (fun j => 7 * Q j) xs.length := by rw [hQ]; exact hb
  have hcc : Nv c C xs.length := by rw [hC]; exact hcc
  refine clP (c_X2_fillLowest hl (clZ M a b c xs.length) o' (n := xs.length) (N := N) (Q := Q) (C := C) x8 hN rfl hb hcc bQ bC) (by decide) (by decide) (fun v M' o'' q => ?_) (fun _ _ _ q => q.elim)
  obtain ⟨rfl, f, t, d, R, th, rfl, rfl, hf, hg, ht, hRN, hfull⟩ := q
  have hR0 : R = 0 → ∀ j, j < xs.length → C j = 0 := by
    intro w j hj
    rcases hfull with w2 | w2
    · omega
    · have h1 := w2 j hj
      have h2 := hg.2.1
      have h3 : ∀ n j, j < n → d j ≤ sumN d n := by
        intro n
        induction n with
        | zero => intro j hj; omega
        | succ n ih =>
          intro j hj
          show d j ≤ sumN d n + d n
          by_cases w3 : j = n
          · subst w3; omega
          · have := ih j (by omega); omega
      have h4 := h3 xs.length j hj
      omega
  have hsp := hg.split hR0
  have hsum : sumN (dF0 Q C th) xs.length ≤ R := by rw [← hg.2.1]; exact sumN_mono (fun j hj => (hsp j hj).1)
  have htt : (∀ j, j < xs.length → C j = 0) ∨ (mset (mrow (clZ M a b c xs.length) 27 f) 9 7 t 9 7 = nI (7 * th) ∧ th < 100000000) := by
    rcases ht with w | w
    · exact Or.inl (hR0 w)
    · by_cases w2 : R = 0
      · exact Or.inl (hR0 w2)
      · refine Or.inr ⟨w, ?_⟩
        obtain ⟨i, hi, _, he⟩ := (hg.2.2.2.resolve_left w2).1
        have h2 := bQ i hi
        have h3 := hg.1 i hi
        have h4 := bC i hi
        omega
  refine clP (c_X2_splitByThreshold hl (mset (mrow (clZ M a b c xs.length) 27 f) 9 7 t) o'' (n := xs.length) (R := R) (th := th) (Q := Q) (C := C) x8 (by omega) rfl hb hcc bQ bC htt hsum) (by decide) (by decide) (fun v M' o3 q => ?_) (fun _ _ _ q => q.elim)
  obtain ⟨rfl, rfl, f2, g2, rfl, hf2, hg2⟩ := q
  generalize hB : mset (mrow (mrow (mset (mrow (clZ M a b c xs.length) 27 f) 9 7 t) 27 f2) 28 g2) 9 8 (nI (R - sumN (dF0 Q C th) xs.length)) = B
  have hB24 : B 24 = a := by rw [← hB]; rfl
  have hBF : Frm PLS M B := by
    intro y hy
    rw [← hB]
    simp only [PLS, List.mem_cons, List.not_mem_nil, or_false, not_or] at hy
    obtain ⟨y1, y2, y3, y4, y5, y6, y7⟩ := hy
    simp [clZ, mset, mrow, y1, y2, y3, y4, y5, y6]
  have hP0 : PSt B B xs.length (dF0 Q C th) (sF0 Q C th) (R - sumN (dF0 Q C th) xs.length) := by
    refine ⟨fun _ _ _ _ _ => rfl, ?_, ?_, ?_, ?_⟩
    · rw [← hB]; rfl
    · rw [← hB]; exact hf2
    · rw [← hB]; exact hg2
    · rw [← hB]; rfl
  generalize hW : plW xs.length N none (dF0 Q C th) (sF0 Q C th) (R - sumN (dF0 Q C th) xs.length) = W
  have key : ∀ q k lo D S sd Mx pre, k + q = N → (∀ i, lo = some i → i < xs.length) → (∀ j, j < xs.length → D j ≤ 2) → sd ≤ 6 → PSt B Mx xs.length D S sd → pre.length = k → W = pre ++ plW xs.length q lo D S sd → (∀ j, j < k → Mx 29 j = oW xs (pre.getD j none)) → G 23 [some (.ref 9), some (.ref 8), some (.int p), some (.int (nI N)), some (.int (nI N)), some (.int (oI lo)), some (.int (nI k))] [] Mx o3 0 := by
    intro q
    induction q with
    | zero =>
      intro k lo D S sd Mx pre hk hlo hD hsd hP hpre hWp hway
      refine hG 23 _ _ _ _ _ ?_
      refine ⟨fun _ => ?_, fun h => absurd (nI_le (by omega) (by omega)) h⟩
      refine hG 50 _ _ _ _ _ ?_
      refine ⟨⟨rfl, rfl, ?_, d, R, th, hg, hRN, hfull, fun j hj => ?_⟩, Nat.le_refl _⟩
      · intro y hy
        rw [← hBF y hy]
        simp only [PLS, List.mem_cons, List.not_mem_nil, or_false, not_or] at hy
        exact hP.1 y hy.1 hy.2.2.2.2.1 hy.2.2.2.2.2.1 hy.2.2.2.2.2.2
      · rw [hW, hWp, show plW xs.length 0 lo D S sd = [] from rfl, List.append_nil]
        exact hway j (by omega)
    | succ q ih =>
      intro k lo D S sd Mx pre hk hlo hD hsd hP hpre hWp hway
      refine hG 23 _ _ _ _ _ ?_
      refine ⟨fun h => absurd h (nI_ge (a := k) (b := N) (by omega) (by omega)), fun _ => ?_⟩
      have ea : nI N - nI k - 1 = nI q := by rw [pk_sub (by omega), show N - k = q + 1 by omega, nI_pred]
      have hft := c_X2_firstThatCompletes hl Mx o3 (n := xs.length) (m := q) (sd := sd) (D := D) (S := S) lo hlo x8 (by omega) hsd hD hP.2.1 hP.2.2.1 hP.2.2.2.1 hP.2.2.2.2
      rw [← ea] at hft
      refine clI hft (by decide) (by decide) ?_
      have hWp2 : W = (pre ++ [fsP (nxB D S sd q xs.length lo) xs.length 0]) ++ plW xs.length q (fsP (nxB D S sd q xs.length lo) xs.length 0) (tkDo D (fsP (nxB D S sd q xs.length lo) xs.length 0)) (tkSo D S (fsP (nxB D S sd q xs.length lo) xs.length 0)) (tkdo D sd (fsP (nxB D S sd q xs.length lo) xs.length 0)) := by
        rw [hWp, List.append_assoc]; rfl
      generalize hr : fsP (nxB D S sd q xs.length lo) xs.length 0 = r at hWp2 ⊢
      have hrn : ∀ i, r = some i → i < xs.length := fun i hi => by rw [hi] at hr; have := (fsP_some hr).2.1; omega
      obtain ⟨hP2, hw2⟩ := hP.take r
      have hD2 : ∀ j, j < xs.length → tkDo D r j ≤ 2 := fun j hj => by
        cases r with
        | none => exact hD j hj
        | some i => exact Nat.le_trans (tkD_le j) (hD j hj)
      have hsd2 : tkdo D sd r ≤ 6 := by
        cases r with
        | none => exact hsd
        | some i => show tkd D sd i ≤ 6; unfold tkd; split <;> omega
      have fin : ∀ x, x = oW xs r → G 23 [some (.ref 9), some (.ref 8), some (.int p), some (.int (nI N)), some (.int (nI N)), some (.int (oI r)), some (.int (nI k + 1))] [] (mset (ftM Mx D sd r) 29 (nI k).toNatClampNeg x) o3 0 := by
        intro x hx
        rw [nI_clamp (by omega)]
        have hnx := ih (k + 1) r (tkDo D r) (tkSo D S r) (tkdo D sd r) (mset (ftM Mx D sd r) 29 k x) (pre ++ [r]) (by omega) hrn hD2 hsd2 (hP2.way k x) (by rw [List.length_append, hpre]; rfl) hWp2 (fun j hj => by
          show upd (ftM Mx D sd r 29) k x j = _
          rw [hw2]
          by_cases w : j = k
          · subst w
            rw [pk_us, hx, List.getD_eq_getElem?_getD, List.getElem?_append_right (by omega), hpre, Nat.sub_self]; rfl
          · rw [pk_un w, hway j (by omega), List.getD_eq_getElem?_getD, List.getD_eq_getElem?_getD, List.getElem?_append_left (by omega)])
        rw [← nI_1] at hnx
        exact hnx
      refine ⟨fun h => ?_, fun h => ?_⟩
      · refine hG 43 _ _ _ _ _ ?_
        cases hri : r with
        | none => rw [hri] at h; exact absurd rfl h
        | some i =>
          have hin := hrn i hri
          rw [hri] at fin
          refine ⟨vp_in_nI (show i < 8 by omega) (by decide), vp_in_nI (show k < 6 by omega) (by decide), ?_⟩
          exact fin _ (by
            show ftM Mx D sd (some i) 24 (nI i).toNatClampNeg = nI (ow xs i)
            rw [hri] at hP2
            rw [nI_clamp (by omega), hP2.1 24 (by decide) (by decide) (by decide) (by decide), hB24]
            exact ha i hin)
      · cases hri : r with
        | none =>
          rw [hri] at fin
          refine hG 47 _ _ _ _ _ ?_
          exact ⟨vp_in_nI (show k < 6 by omega) (by decide), fin _ rfl⟩
        | some i =>
          have hin := hrn i hri
          rw [hri] at h
          exact absurd h (im1 i (by omega))
  exact key N 0 none (dF0 Q C th) (sF0 Q C th) _ B [] (by omega) (fun i hi => by cases hi) (fun j hj => Nat.le_trans (Nat.min_le_left _ _) (bC j hj)) (by omega) hP0 rfl (by rw [← hW]; rfl) (fun j hj => absurd hj (Nat.not_lt_zero _))
