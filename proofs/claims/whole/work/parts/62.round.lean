/-! THE TWO SIDES: lists of a round. -/
def poI (W H : List Int32) (i : Nat) : Nat := if W.length = 1 ∧ H.length = 1 then 0 else if i < W.length / 2 then 2 * i else W.length + 2 * (i - W.length / 2)
theorem app_getD_l {xs ys : List Int32} {i : Nat} (h : i < xs.length) : (xs ++ ys).getD i 0 = xs.getD i 0 := by
  rw [List.getD_eq_getElem?_getD, List.getD_eq_getElem?_getD, List.getElem?_append_left h]
theorem app_getD_r {xs ys : List Int32} {i : Nat} : (xs ++ ys).getD (xs.length + i) 0 = ys.getD i 0 := by
  rw [List.getD_eq_getElem?_getD, List.getD_eq_getElem?_getD, List.getElem?_append_right (by omega), show xs.length + i - xs.length = i by omega]
theorem prs_pos {W H : List Int32} {i : Nat} (hi : i < (prs W H).length) : poI W H i + 1 < (W ++ H).length ∧ ((prs W H).getD i (0, 0)).1 = (W ++ H).getD (poI W H i) 0 ∧ ((prs W H).getD i (0, 0)).2 = (W ++ H).getD (poI W H i + 1) 0 := by
  rw [prs_len] at hi
  rw [List.length_append]
  unfold poI
  by_cases h1 : W.length = 1 ∧ H.length = 1
  · rw [if_pos h1] at hi ⊢
    have hp : prs W H = [(W.getD 0 0, H.getD 0 0)] := by unfold prs; rw [if_pos h1]
    rw [hp, show i = 0 by omega]
    refine ⟨by omega, (app_getD_l (by omega)).symm, ?_⟩
    have := app_getD_r (xs := W) (ys := H) (i := 0)
    rw [h1.1] at this
    exact this.symm
  · rw [if_neg h1] at hi ⊢
    have hp : prs W H = pr2 W (W.length / 2) ++ pr2 H (H.length / 2) := by unfold prs; rw [if_neg h1]
    have hl := pr2_len W (W.length / 2)
    rw [hp]
    by_cases w : i < W.length / 2
    · rw [if_pos w, List.getD_eq_getElem?_getD, List.getElem?_append_left (by omega), ← List.getD_eq_getElem?_getD, pr2_at w]
      exact ⟨by omega, (app_getD_l (by omega)).symm, (app_getD_l (by omega)).symm⟩
    · rw [if_neg w, List.getD_eq_getElem?_getD, List.getElem?_append_right (by omega), hl, ← List.getD_eq_getElem?_getD, pr2_at (by omega)]
      exact ⟨by omega, app_getD_r.symm, by rw [Nat.add_assoc]; exact app_getD_r.symm⟩
theorem poI_lt {W H : List Int32} {i j : Nat} (hij : i < j) (hj : j < (prs W H).length) : poI W H i + 2 ≤ poI W H j := by
  rw [prs_len] at hj
  unfold poI
  by_cases h1 : W.length = 1 ∧ H.length = 1
  · rw [if_pos h1] at hj; omega
  · rw [if_neg h1] at hj
    rw [if_neg h1, if_neg h1]
    by_cases w : i < W.length / 2
    · rw [if_pos w]
      by_cases w2 : j < W.length / 2
      · rw [if_pos w2]; omega
      · rw [if_neg w2]; omega
    · rw [if_neg w, if_neg (by omega)]; omega
theorem lo_pos {W H L : List Int32} (hL : LoO (prs W H) L) (hle : L.length ≤ (prs W H).length) {i : Nat} (hi : i < L.length) : ∃ p, poI W H i ≤ p ∧ p ≤ poI W H i + 1 ∧ p < (W ++ H).length ∧ L.getD i 0 = (W ++ H).getD p 0 := by
  obtain ⟨h1, h2, h3⟩ := prs_pos (W := W) (H := H) (i := i) (by omega)
  rcases hL i hi with q | q
  · exact ⟨poI W H i, Nat.le_refl _, by omega, by omega, by rw [q, h2]⟩
  · exact ⟨poI W H i + 1, by omega, Nat.le_refl _, h1, by rw [q, h3]⟩
theorem lo_nd {W H L : List Int32} (hn : (W ++ H).Nodup) (hL : LoO (prs W H) L) (hle : L.length ≤ (prs W H).length) : L.Nodup ∧ ∀ x ∈ L, x ∈ W ++ H := by
  refine ⟨?_, fun x hx => ?_⟩
  · rw [nd_iff]
    intro i j hij hj
    obtain ⟨p, p1, p2, p3, p4⟩ := lo_pos hL hle (i := i) (by omega)
    obtain ⟨q, q1, q2, q3, q4⟩ := lo_pos hL hle (i := j) hj
    have := poI_lt hij (by omega : j < (prs W H).length)
    rw [p4, q4]
    exact (nd_iff.mp hn) p q (by omega) q3
  · obtain ⟨i, hi, he⟩ := List.getElem_of_mem hx
    obtain ⟨p, _, _, p3, p4⟩ := lo_pos hL hle (i := i) hi
    rw [List.getD_eq_getElem?_getD, List.getElem?_eq_getElem hi] at p4
    have p4 : L[i] = (W ++ H).getD p 0 := p4
    rw [← he, p4]
    exact getD_mem p3
theorem lo_app {P : List (Int32 × Int32)} {L : List Int32} {t : Int32} (hL : LoO P L) (ht : t = (P.getD L.length (0, 0)).1 ∨ t = (P.getD L.length (0, 0)).2) : LoO P (L ++ [t]) := by
  intro j hj
  rw [List.length_append] at hj
  have hj : j < L.length + 1 := hj
  by_cases w : j < L.length
  · rw [app_getD_l w]; exact hL j w
  · have e : j = L.length + 0 := by omega
    rw [e, app_getD_r]
    exact ht
/-- the rows after a round: without doubles, inside the old ones, no more than they were -/
theorem round_nd {W H L : List Int32} (hn : (W ++ H).Nodup) (hLn : L.Nodup) (hLs : ∀ x ∈ L, x ∈ W ++ H) : (wN W L ++ hN W H L).Nodup ∧ (∀ x ∈ wN W L ++ hN W H L, x ∈ W ++ H) ∧ (wN W L).length + (hN W H L).length ≤ W.length + H.length := by
  obtain ⟨nW, nH, nWH⟩ := List.nodup_append.mp hn
  have mW : ∀ x, x ∈ wN W L ↔ x ∈ W ∧ x ∉ L := fun x => by unfold wN; rw [List.mem_filter]; simp
  have mH : ∀ x, x ∈ hN W H L ↔ (x ∈ H ∧ x ∉ L) ∨ (x ∈ L ∧ x ∈ W) := fun x => by unfold hN; rw [List.mem_append, List.mem_filter, List.mem_filter]; simp
  have n1 : (wN W L).Nodup := List.Pairwise.filter _ nW
  have n2 : (hN W H L).Nodup := by
    unfold hN
    refine List.nodup_append.mpr ⟨List.Pairwise.filter _ nH, List.Pairwise.filter _ hLn, fun x hx y hy hxy => ?_⟩
    rw [List.mem_filter] at hx hy
    have hx2 : x ∉ L := by simpa using hx.2
    exact hx2 (by rw [hxy]; exact hy.1)
  have n3 : (wN W L ++ hN W H L).Nodup := by
    refine List.nodup_append.mpr ⟨n1, n2, fun x hx y hy hxy => ?_⟩
    subst hxy
    obtain ⟨x1, x2⟩ := (mW x).mp hx
    rcases (mH x).mp hy with q | q
    · exact nWH x x1 x q.1 rfl
    · exact x2 q.1
  have n4 : ∀ x ∈ wN W L ++ hN W H L, x ∈ W ++ H := by
    intro x hx
    rcases List.mem_append.mp hx with q | q
    · exact List.mem_append_left _ ((mW x).mp q).1
    · rcases (mH x).mp q with q | q
      · exact List.mem_append_right _ q.1
      · exact List.mem_append_left _ q.2
  refine ⟨n3, n4, ?_⟩
  have := nd_le _ _ n3 n4
  rw [List.length_append, List.length_append] at this
  exact this
theorem prs_two {W H : List Int32} {k : Nat} (h : k < (prs W H).length) : ¬ W.length + H.length = 1 := by
  rw [prs_len] at h
  by_cases h1 : W.length = 1 ∧ H.length = 1
  · omega
  · rw [if_neg h1] at h; omega
theorem CRd.out {f lt : Nat → Int32} {dy : Int32} {m N : Nat} {p : Int32} {pl rd pl' rd' : Nat → Nat} {af af' : Int32} (h : CRd f lt dy m N p pl rd af pl' rd' af') (hN : 1 ≤ N) : ∀ k, m ≤ k → pl' k = pl k ∧ rd' k = rd k := by
  obtain ⟨w, hw, rfl, rfl, rfl⟩ := h
  obtain ⟨_, wi, _⟩ := hw.ok hN (fun j _ => Nat.min_le_right _ _)
  intro k hk
  have hno : k ∉ ownL f p m := fun z => by have := (ownL_lt z).1; omega
  exact ⟨rdW_out hno wi, rdW_out hno wi⟩
theorem CCh.out {f lt : Nat → Int32} {dy : Int32} {m N : Nat} (hN : 1 ≤ N) : ∀ {ps : List Int32} {pl rd pl' rd' : Nat → Nat} {af af' : Int32}, CCh f lt dy m N ps pl rd af pl' rd' af' → ∀ k, m ≤ k → pl' k = pl k ∧ rd' k = rd k := by
  intro ps
  induction ps with
  | nil =>
    intro pl rd pl' rd' af af' h k _
    obtain ⟨rfl, rfl, rfl⟩ := h
    exact ⟨rfl, rfl⟩
  | cons p ps ih =>
    intro pl rd pl' rd' af af' h k hk
    obtain ⟨pl1, rd1, af1, h1, h2⟩ := h
    obtain ⟨e1, e2⟩ := h1.out hN k hk
    obtain ⟨e3, e4⟩ := ih h2 k hk
    exact ⟨e3.trans e1, e4.trans e2⟩
