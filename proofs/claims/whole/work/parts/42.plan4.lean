/-! CONTRACTS: the planner collects, and plans. -/
/-- a player's own ponies, in order -/
def ownL (f : Nat → Int32) (p : Int32) (m : Nat) : List Nat := (List.range m).filter (fun k => decide (f k = p))
theorem ownL_succ (f : Nat → Int32) (p : Int32) (m : Nat) : ownL f p (m + 1) = ownL f p m ++ (if f m = p then [m] else []) := by
  unfold ownL
  rw [List.range_succ, List.filter_append]
  congr 1
  by_cases h : f m = p
  · rw [if_pos h, List.filter_cons, if_pos (decide_eq_true h)]; rfl
  · rw [if_neg h, List.filter_cons, if_neg (by rw [decide_eq_false h]; decide)]; rfl
theorem ownL_len (f : Nat → Int32) (p : Int32) : ∀ m, (ownL f p m).length = cntN f p m := by
  intro m
  induction m with
  | zero => rfl
  | succ m ih =>
    rw [ownL_succ, List.length_append, ih, cntN]
    by_cases h : f m = p
    · rw [if_pos h, if_pos h]; rfl
    · rw [if_neg h, if_neg h]; rfl
theorem ownL_lt {f : Nat → Int32} {p : Int32} {m k : Nat} (h : k ∈ ownL f p m) : k < m ∧ f k = p := by
  unfold ownL at h
  rw [List.mem_filter, List.mem_range, decide_eq_true_eq] at h
  exact h
theorem cntN_mono (f : Nat → Int32) (p : Int32) : ∀ {a b}, a ≤ b → cntN f p a ≤ cntN f p b := by
  intro a b h
  induction b with
  | zero => rw [show a = 0 by omega]; exact Nat.le_refl _
  | succ b ih =>
    by_cases q : a = b + 1
    · rw [q]; exact Nat.le_refl _
    · have := ih (by omega)
      simp only [cntN]; omega
theorem ownL_stop (f : Nat → Int32) (p : Int32) : ∀ q j m, j + q = m → (ownL f p j).length = 8 → cntN f p m ≤ 8 → ownL f p m = ownL f p j := by
  intro q
  induction q with
  | zero => intro j m h _ _; rw [show m = j by omega]
  | succ q ih =>
    intro j m h h1 h2
    have hno : ¬ f j = p := by
      intro w
      have h3 := cntN_mono f p (a := j + 1) (b := m) (by omega)
      rw [cntN, if_pos w, ← ownL_len, h1] at h3
      omega
    have e : ownL f p (j + 1) = ownL f p j := by rw [ownL_succ, if_neg hno, List.append_nil]
    rw [ih (j + 1) m (by omega) (by rw [e]; exact h1) h2, e]
def ow (xs : List Nat) (j : Nat) : Nat := xs.getD j 0
theorem ow_app1 {xs : List Nat} {y j : Nat} (h : j < xs.length) : ow (xs ++ [y]) j = ow xs j := by
  unfold ow; rw [List.getD_eq_getElem?_getD, List.getD_eq_getElem?_getD, List.getElem?_append_left h]
theorem ow_app2 {xs : List Nat} {y : Nat} : ow (xs ++ [y]) xs.length = y := by
  unfold ow; rw [List.getD_eq_getElem?_getD, List.getElem?_append_right (Nat.le_refl _), Nat.sub_self]; rfl
theorem ow_mem {xs : List Nat} {j : Nat} (h : j < xs.length) : ow xs j ∈ xs := by
  unfold ow; rw [List.getD_eq_getElem?_getD, List.getElem?_eq_getElem h]; exact List.getElem_mem h
/-- what a pony may still go today -/
def cpF (lt : Nat → Int32) (d : Int32) (rd : Nat → Nat) (k : Nat) : Nat := if lt k ≤ d then 2 - rd k else 0
theorem cpF_le (lt : Nat → Int32) (d : Int32) (rd : Nat → Nat) (k : Nat) : cpF lt d rd k ≤ 2 := by unfold cpF; split <;> omega
theorem mnF_n {a b : Nat} (ha : a < 2 ^ 31) (hb : b < 2 ^ 31) : mnF (nI a) (nI b) = nI (min a b) := by
  unfold mnF
  by_cases h : b < a
  · rw [if_pos (nI_lt h ha), Nat.min_eq_right (by omega)]
  · rw [if_neg (nI_nlt (by omega) hb), Nat.min_eq_left (by omega)]
abbrev clZ (M : Mem) (a b c : Nat → Int32) (n : Nat) : Mem := mset (mrow (mrow (mrow M 24 a) 25 b) 26 c) 9 6 (nI n)
theorem c_X2_collect {l : Launch} (hl : l.stackTraces = false) (M : Mem) (o : Ou) {m z : Nat} {pl rd : Nat → Nat} (p : Int32) (hm : M 8 4 = nI m) (h60 : m ≤ 60) (h8 : cntN (M 20) p m ≤ 8) (hp : ∀ k, k < m → M 21 k = nI (7 * pl k)) (hr : ∀ k, k < m → M 22 k = nI (rd k) ∧ rd k ≤ 2) (hz : z ≤ 6) : Ct l 10 0 24 [.ref 9, .ref 8, .int p, .int (nI z)] M o (fun v M' o' => v = none ∧ o' = o ∧ ∃ a b c, M' = clZ M a b c (ownL (M 20) p m).length ∧ Nv a (ow (ownL (M 20) p m)) (ownL (M 20) p m).length ∧ Nv b (fun j => 7 * pl (ow (ownL (M 20) p m) j)) (ownL (M 20) p m).length ∧ Nv c (fun j => min (cpF (M 23) (M 8 5) rd (ow (ownL (M 20) p m) j)) z) (ownL (M 20) p m).length) nX := by
  refine ct_plain hl ok24 (by decide) (by decide) rfl rfl (by decide) (Nat.le_of_ble_eq_true rfl) (fun G hG => hG 0 _ _ _ _ _ ?_)
  have key : ∀ q j a b c, j + q = m → Nv a (ow (ownL (M 20) p j)) (ownL (M 20) p j).length → Nv b (fun i => 7 * pl (ow (ownL (M 20) p j) i)) (ownL (M 20) p j).length → Nv c (fun i => min (cpF (M 23) (M 8 5) rd (ow (ownL (M 20) p j) i)) z) (ownL (M 20) p j).length → G 6 [some (.ref 9), some (.ref 8), some (.int p), some (.int (nI z)), some (.int (nI j))] [] (clZ M a b c (ownL (M 20) p j).length) o 0 := by
    intro q
    induction q with
    | zero =>
      intro j a b c hj h1 h2 h3
      have : j = m := by omega
      subst this
      refine hG 6 _ _ _ _ _ ?_
      refine clI (c_X5_ponies hl _ o) (by decide) (by decide) ?_
      rw [show clZ M a b c (ownL (M 20) p j).length 8 4 = nI j from hm]
      refine ⟨fun _ => ?_, fun h => absurd (nI_le (Nat.le_refl _) (by omega)) h⟩
      refine hG 51 _ _ _ _ _ ?_
      exact ⟨⟨rfl, rfl, a, b, c, rfl, h1, h2, h3⟩, Nat.le_refl _⟩
    | succ q ih =>
      intro j a b c hj h1 h2 h3
      have hlt : j < m := by omega
      by_cases hc8 : (ownL (M 20) p j).length = 8
      · have hst := ownL_stop (M 20) p (q + 1) j m hj hc8 h8
        refine hG 6 _ _ _ _ _ ?_
        refine clI (c_X5_ponies hl _ o) (by decide) (by decide) ?_
        rw [show clZ M a b c (ownL (M 20) p j).length 8 4 = nI m from hm]
        refine ⟨fun h => absurd h (nI_ge hlt (by omega)), fun _ => ⟨fun _ => ?_, fun h => absurd ?_ h⟩⟩
        · refine hG 51 _ _ _ _ _ ?_
          refine ⟨⟨rfl, rfl, a, b, c, ?_, ?_, ?_, ?_⟩, Nat.le_refl _⟩
          · rw [hst]
          · rw [hst]; exact h1
          · rw [hst]; exact h2
          · rw [hst]; exact h3
        · rw [show clZ M a b c (ownL (M 20) p j).length 9 6 = nI (ownL (M 20) p j).length from mset_same _ _ _ _, hc8]
          decide
      have hnx := ih (j + 1)
      have h8j : (ownL (M 20) p (j + 1)).length ≤ 8 := by rw [ownL_len]; exact Nat.le_trans (cntN_mono _ _ (by omega)) h8
      have h8k : (ownL (M 20) p j).length ≤ 8 := by rw [ownL_len]; exact Nat.le_trans (cntN_mono _ _ (by omega)) h8
      rw [ownL_succ] at hnx h8j
      generalize ownL (M 20) p j = xs at h1 h2 h3 hnx h8j h8k hc8 ⊢
      have hin : vp_in (nI j) 60 := vp_in_nI (by omega) (by decide)
      have ej : (nI j).toNatClampNeg = j := nI_clamp (by omega)
      have ein : vp_in (nI xs.length) 8 := vp_in_nI (by omega) (by decide)
      have ex : (nI xs.length).toNatClampNeg = xs.length := nI_clamp (by omega)
      refine hG 6 _ _ _ _ _ ?_
      refine clI (c_X5_ponies hl _ o) (by decide) (by decide) ?_
      rw [show clZ M a b c xs.length 8 4 = nI m from hm]
      refine ⟨fun h => absurd h (nI_ge hlt (by omega)), fun _ => ⟨fun h => absurd h (nI_ge (a := xs.length) (b := 8) (by omega) (by decide)), fun _ => ?_⟩⟩
      refine clI (c_X5_ownerOf hl _ o (nI j) hin) (by decide) (by decide) ?_
      rw [ej, show clZ M a b c xs.length 20 j = M 20 j from rfl]
      refine ⟨fun h => ?_, fun h => ⟨ein, ?_⟩⟩
      · refine hG 49 _ _ _ _ _ ?_
        have := hnx a b c (by omega)
        rw [if_neg h, List.append_nil, ← nI_1] at this
        exact this h1 h2 h3
      · have e1 : clZ M a b c xs.length 9 6 = nI xs.length := mset_same _ _ _ _
        rw [e1, ex]
        refine clI (c_X5_ledOf hl _ o (nI j) hin) (by decide) (by decide) ⟨ein, ?_⟩
        rw [ej]
        refine clI (c_X5_ridesLeft hl _ o (nI j) hin) (by decide) (by decide) ⟨ein, ?_⟩
        rw [ej]
        obtain ⟨hr1, hr2⟩ := hr j hlt
        have eA : mset (clZ M a b c xs.length) 24 xs.length (nI j) 9 6 = nI xs.length := rfl
        have eB : mset (clZ M a b c xs.length) 24 xs.length (nI j) 21 j = nI (7 * pl j) := hp j hlt
        rw [eA, ex, eB]
        have f1 : mset (mset (clZ M a b c xs.length) 24 xs.length (nI j)) 25 xs.length (nI (7 * pl j)) 9 6 = nI xs.length := rfl
        have f2 : mset (mset (clZ M a b c xs.length) 24 xs.length (nI j)) 25 xs.length (nI (7 * pl j)) 23 j = M 23 j := rfl
        have f3 : mset (mset (clZ M a b c xs.length) 24 xs.length (nI j)) 25 xs.length (nI (7 * pl j)) 8 5 = M 8 5 := rfl
        have f4 : mset (mset (clZ M a b c xs.length) 24 xs.length (nI j)) 25 xs.length (nI (7 * pl j)) 22 j = nI (rd j) := hr1
        have f5 : (if M 23 j ≤ M 8 5 then 2 - nI (rd j) else 0) = nI (cpF (M 23) (M 8 5) rd j) := by
          unfold cpF
          by_cases w : M 23 j ≤ M 8 5
          · rw [if_pos w, if_pos w, i2, pk_sub hr2]
          · rw [if_neg w, if_neg w]; rfl
        have hcl := cpF_le (M 23) (M 8 5) rd j
        have f6 : (if nI z < nI (cpF (M 23) (M 8 5) rd j) then nI z else nI (cpF (M 23) (M 8 5) rd j)) = nI (min (cpF (M 23) (M 8 5) rd j) z) := mnF_n (by omega) (by omega)
        rw [f1, f2, f3, f4, f5, f6, ex]
        have hnx := hnx (upd a xs.length (nI j)) (upd b xs.length (nI (7 * pl j))) (upd c xs.length (nI (min (cpF (M 23) (M 8 5) rd j) z))) (by omega)
        rw [if_pos h] at hnx
        have el : (xs ++ [j]).length = xs.length + 1 := by rw [List.length_append]; rfl
        rw [el] at hnx
        have hnx := hnx (fun q hq => by
          by_cases w : q = xs.length
          · subst w; rw [pk_us, ow_app2]
          · rw [pk_un w, ow_app1 (by omega)]; exact h1 q (by omega)) (fun q hq => by
          show _ = nI (7 * pl (ow (xs ++ [j]) q))
          by_cases w : q = xs.length
          · subst w; rw [pk_us, ow_app2]
          · rw [pk_un w, ow_app1 (by omega)]; exact h2 q (by omega)) (fun q hq => by
          show _ = nI (min (cpF (M 23) (M 8 5) rd (ow (xs ++ [j]) q)) z)
          by_cases w : q = xs.length
          · subst w; rw [pk_us, ow_app2]
          · rw [pk_un w, ow_app1 (by omega)]; exact h3 q (by omega))
        rw [← nI_1] at hnx
        generalize nI (min (cpF (M 23) (M 8 5) rd j) z) = x3 at hnx ⊢
        generalize nI (7 * pl j) = x2 at hnx ⊢
        have em : mset (mset (mset (mset (clZ M a b c xs.length) 24 xs.length (nI j)) 25 xs.length x2) 26 xs.length x3) 9 6 ((mset (mset (mset (clZ M a b c xs.length) 24 xs.length (nI j)) 25 xs.length x2) 26 xs.length x3) 9 6 + 1) = clZ M (upd a xs.length (nI j)) (upd b xs.length x2) (upd c xs.length x3) (xs.length + 1) := by
          rw [show (mset (mset (mset (clZ M a b c xs.length) 24 xs.length (nI j)) 25 xs.length x2) 26 xs.length x3) 9 6 = nI xs.length from rfl, nI_1]
          funext y
          by_cases w1 : y = 24
          · subst w1; rfl
          by_cases w2 : y = 25
          · subst w2; rfl
          by_cases w3 : y = 26
          · subst w3; rfl
          by_cases w4 : y = 9
          · subst w4; exact congrFun (mset_mset M 9 6 _ _) 9
          · simp [clZ, mset, mrow, w1, w2, w3, w4]
        rw [← em] at hnx
        exact hnx
  have := key m 0 (M 24) (M 25) (M 26) (by omega) (fun j h => absurd h (Nat.not_lt_zero _)) (fun j h => absurd h (Nat.not_lt_zero _)) (fun j h => absurd h (Nat.not_lt_zero _))
  rw [show clZ M (M 24) (M 25) (M 26) (ownL (M 20) p 0).length = mset M 9 6 0 by unfold clZ; rw [show mrow (mrow (mrow M 24 (M 24)) 25 (M 25)) 26 (M 26) = M by rw [mrow_self, mrow_self, mrow_self]]; rfl] at this
  exact this
