/-! CONTRACTS: rows as lists, the told numbers. -/
def rmF (v d : Int32) : Int32 := ((v.toInt64 &&& 4294967295) - (v.toInt64 &&& 4294967295) / d.toInt64 * d.toInt64).toInt32
theorem mask_nn (x : Int64) : ¬ (x &&& 4294967295) < 0 := by
  intro h
  have h1 : (x &&& 4294967295).toBitVec.msb = false := by
    rw [Int64.toBitVec_and, BitVec.msb_and]
    rw [show (Int64.toBitVec 4294967295).msb = false by decide, Bool.and_false]
  have h2 : (x &&& 4294967295).toInt < 0 := by
    have := Int64.lt_iff_toInt_lt.mp h
    exact this
  have h3 : 0 ≤ (x &&& 4294967295).toBitVec.toInt := BitVec.toInt_nonneg_of_msb_false h1
  have h4 : (x &&& 4294967295).toInt = (x &&& 4294967295).toBitVec.toInt := rfl
  omega
theorem rmF_n (v : Int32) {d : Nat} (h0 : 0 < d) (hd : d < 2 ^ 31) : ∃ r, r < d ∧ rmF v (nI d) = nI r := by
  obtain ⟨a, ha, he⟩ := pk_lOf (mask_nn v.toInt64)
  refine ⟨a % d, Nat.mod_lt _ h0, ?_⟩
  unfold rmF
  rw [he, nI_l hd, pk_lRem ha h0 (by omega), lN_i]
def Lst (f : Nat → Int32) (n : Int32) (xs : List Int32) : Prop := n = nI xs.length ∧ xs.length ≤ 8 ∧ ∀ j, j < xs.length → f j = xs.getD j 0
theorem Lst.has {f : Nat → Int32} {n : Int32} {xs : List Int32} (h : Lst f n xs) (t : Int32) : hasN f xs.length t = decide (t ∈ xs) := by
  rw [Bool.eq_iff_iff, hasN_iff, decide_eq_true_eq]
  constructor
  · rintro ⟨j, hj, he⟩
    rw [h.2.2 j hj, List.getD_eq_getElem?_getD, List.getElem?_eq_getElem hj] at he
    rw [← he]
    exact List.getElem_mem hj
  · intro hm
    obtain ⟨j, hj, he⟩ := List.getElem_of_mem hm
    refine ⟨j, hj, ?_⟩
    rw [h.2.2 j hj, List.getD_eq_getElem?_getD, List.getElem?_eq_getElem hj]
    exact he
theorem Lst.nil {f : Nat → Int32} : Lst f 0 [] := ⟨rfl, by decide, fun j h => absurd h (Nat.not_lt_zero _)⟩
theorem Lst.app {f : Nat → Int32} {n : Int32} {xs : List Int32} (h : Lst f n xs) (h8 : xs.length < 8) (t : Int32) : Lst (upd f xs.length t) (nI (xs.length + 1)) (xs ++ [t]) := by
  refine ⟨by rw [List.length_append]; rfl, by rw [List.length_append]; show xs.length + 1 ≤ 8; omega, fun j hj => ?_⟩
  rw [List.length_append] at hj
  have hj : j < xs.length + 1 := hj
  by_cases he : j = xs.length
  · subst he
    rw [pk_us, List.getD_eq_getElem?_getD, List.getElem?_append_right (Nat.le_refl _), Nat.sub_self]
    rfl
  · rw [pk_un he, h.2.2 j (by omega), List.getD_eq_getElem?_getD, List.getD_eq_getElem?_getD, List.getElem?_append_left (by omega)]
def swp (xs : List Int32) (a b : Nat) : List Int32 := (xs.set a (xs.getD b 0)).set b (xs.getD a 0)
theorem swp_len (xs : List Int32) (a b : Nat) : (swp xs a b).length = xs.length := by unfold swp; rw [List.length_set, List.length_set]
theorem getD_set (xs : List Int32) (a : Nat) (v : Int32) (j : Nat) (ha : a < xs.length) : (xs.set a v).getD j 0 = if j = a then v else xs.getD j 0 := by
  rw [List.getD_eq_getElem?_getD, List.getElem?_set]
  by_cases h : a = j
  · rw [if_pos h, if_pos ha, if_pos h.symm]; rfl
  · rw [if_neg h, if_neg (fun q => h q.symm), List.getD_eq_getElem?_getD]
theorem Lst.swp {f : Nat → Int32} {n : Int32} {xs : List Int32} (h : Lst f n xs) {a b : Nat} (ha : a < xs.length) (hb : b < xs.length) : Lst (upd (upd f a (f b)) b (f a)) n (swp xs a b) := by
  refine ⟨by rw [swp_len]; exact h.1, by rw [swp_len]; exact h.2.1, fun j hj => ?_⟩
  rw [swp_len] at hj
  unfold Jvm.Pilot.CPoloSeasonLaw_law_r5675_952e98.swp
  rw [getD_set _ _ _ _ (by rw [List.length_set]; exact hb), getD_set _ _ _ _ ha]
  unfold upd
  rw [h.2.2 a ha, h.2.2 b hb]
  split
  · rfl
  · split
    · rfl
    · exact h.2.2 j hj
theorem c_X1_remainder {l : Launch} (hl : l.stackTraces = false) (M : Mem) (o : Ou) {n p d : Nat} (hf : M 2 1 = nI n) (hn : n ≤ 20) (hp : p < n) (h0 : 0 < d) (hd : d < 2 ^ 31) : Ct l 8 0 20 [.ref 2, .int (nI p), .int (nI d)] M o (rI (rmF (M 15 p) (nI d)) M o) nX := by
  refine ct_plain hl ok20 (by decide) (by decide) rfl rfl (by decide) (Nat.le_of_ble_eq_true rfl) (fun G hG => hG 0 _ _ _ _ _ ?_)
  refine ⟨fun h => absurd h (nI_pos (by omega)), fun _ => ⟨fun h => absurd (by rw [← hf]; exact h) (nI_ge (a := p) (b := n) hp (by omega)), fun _ => ⟨fun _ => ?_, fun h => absurd (show (1 : Int32) ≤ nI d from nI_le (a := 1) h0 hd) h⟩⟩⟩
  refine hG 11 _ _ _ _ _ ?_
  refine ⟨vp_in_nI (show p < 20 by omega) (by decide), ?_, ⟨?_, rfl, rfl⟩, Nat.le_refl _⟩
  · rw [nI_l hd]
    intro q
    have := (lN_eq (a := d) (b := 0) hd (by decide)).mp q
    omega
  · rw [nI_clamp (by omega)]; rfl
theorem c_X4_exchange {l : Launch} (hl : l.stackTraces = false) (M : Mem) (o : Ou) {n a b : Nat} (hf : M 5 1 = nI n) (hn : n ≤ 8) (ha : a < n) (hb : b < n) : Ct l 8 0 50 [.ref 5, .int (nI a), .int (nI b)] M o (rV (mset (mset M 17 a (M 17 b)) 17 b (M 17 a)) o) nX := by
  refine ct_plain hl ok50 (by decide) (by decide) rfl rfl (by decide) (Nat.le_of_ble_eq_true rfl) (fun G hG => hG 0 _ _ _ _ _ ?_)
  have ea : (nI a).toNatClampNeg = a := nI_clamp (by omega)
  have eb : (nI b).toNatClampNeg = b := nI_clamp (by omega)
  have ia : vp_in (nI a) 8 := vp_in_nI (by omega) (by decide)
  have ib : vp_in (nI b) 8 := vp_in_nI (by omega) (by decide)
  refine ⟨fun h => absurd h (nI_pos (by omega)), fun _ => ⟨fun h => absurd (by rw [← hf]; exact h) (nI_ge (a := a) (b := n) ha (by omega)), fun _ => ⟨fun h => absurd h (nI_pos (by omega)), fun _ => ⟨fun _ => ?_, fun h => absurd (by rw [hf]; exact nI_lt hb (by omega)) h⟩⟩⟩⟩
  refine hG 13 _ _ _ _ _ ?_
  refine ⟨ia, ib, ia, ib, ⟨rfl, ?_, rfl⟩, Nat.le_refl _⟩
  rw [ea, eb]
theorem filter_snoc {p : Int32 → Bool} (xs : List Int32) (x : Int32) : (xs ++ [x]).filter p = xs.filter p ++ (if p x = true then [x] else []) := by
  rw [List.filter_append]
  congr 1
  exact List.filter_cons
theorem take_snoc (xs : List Int32) {j : Nat} (h : j < xs.length) : xs.take (j + 1) = xs.take j ++ [xs.getD j 0] := by
  rw [List.take_add_one, List.getD_eq_getElem?_getD, List.getElem?_eq_getElem h]; rfl
theorem filter_take_len (p : Int32 → Bool) (xs : List Int32) (j : Nat) : ((xs.take j).filter p).length ≤ j := by
  refine Nat.le_trans (List.length_filter_le _ _) ?_
  rw [List.length_take]
  omega
theorem c_X4_removeAll_5 {l : Launch} (hl : l.stackTraces = false) (M : Mem) (o : Ou) {xs ys : List Int32} (hx : Lst (M 17) (M 5 1) xs) (hy : Lst (M 19) (M 7 1) ys) : Ct l 9 0 51 [.ref 5, .ref 7] M o (fun v M' o' => v = none ∧ o' = o ∧ ∃ f, M' = mset (mrow M 17 f) 5 1 (nI (xs.filter (fun x => !decide (x ∈ ys))).length) ∧ Lst f (nI (xs.filter (fun x => !decide (x ∈ ys))).length) (xs.filter (fun x => !decide (x ∈ ys)))) nX := by
  refine ct_plain hl ok51 (by decide) (by decide) rfl rfl (by decide) (Nat.le_of_ble_eq_true rfl) (fun G hG => hG 0 _ _ _ _ _ ?_)
  generalize hp : (fun x => !decide (x ∈ ys)) = p at hG
  have key : ∀ m j f, j + m = xs.length → (∀ q, q < ((xs.take j).filter p).length → f q = ((xs.take j).filter p).getD q 0) → (∀ q, j ≤ q → q < xs.length → f q = xs.getD q 0) → G 5 [some (.ref 5), some (.ref 7), some (.int (nI ((xs.take j).filter p).length)), some (.int (nI j))] [] (mrow M 17 f) o 0 := by
    have h8 := hx.2.1
    intro m
    induction m with
    | zero =>
      intro j f hj h1 h2
      refine hG 5 _ _ _ _ _ ?_
      refine ⟨fun _ => ?_, fun h => absurd (by rw [show mrow M 17 f 5 1 = nI xs.length from hx.1]; exact nI_le (by omega) (by omega)) h⟩
      refine hG 27 _ _ _ _ _ ?_
      rw [List.take_of_length_le (by omega)] at h1 ⊢
      have := List.length_filter_le p xs
      exact ⟨⟨rfl, rfl, f, rfl, rfl, by omega, h1⟩, Nat.le_refl _⟩
    | succ m ih =>
      intro j f hj h1 h2
      have e1 : (nI j).toNatClampNeg = j := nI_clamp (by omega)
      have hle := filter_take_len p xs j
      have hlx := List.length_filter_le p (xs.take j)
      have hnx := ih (j + 1)
      rw [take_snoc xs (by omega), filter_snoc, ← h2 j (Nat.le_refl _) (by omega)] at hnx
      refine hG 5 _ _ _ _ _ ?_
      refine ⟨fun h => absurd (by rw [← show mrow M 17 f 5 1 = nI xs.length from hx.1]; exact h) (nI_ge (a := j) (b := xs.length) (by omega) (by omega)), fun _ => ⟨vp_in_nI (show j < 8 by omega) (by decide), ?_⟩⟩
      refine clI (c_X4_contains hl (mrow M 17 f) o (i := 7) (n := ys.length) _ (by decide) hy.1 hy.2.1) (by decide) (by decide) ?_
      rw [show mrow M 17 f 17 = f from rfl, e1, show hasN (mrow M 17 f (7 + 12)) ys.length (f j) = decide (f j ∈ ys) from hy.has (f j)]
      refine ⟨fun h => ?_, fun h => ⟨vp_in_nI (show j < 8 by omega) (by decide), vp_in_nI (show ((xs.take j).filter p).length < 8 by omega) (by decide), ?_⟩⟩
      · refine hG 25 _ _ _ _ _ ?_
        have hpf : p (f j) = false := by rw [← hp]; show (!decide (f j ∈ ys)) = false; rw [cond_n h]; rfl
        have := hnx f (by omega)
        rw [hpf, if_neg (by decide), List.append_nil, ← nI_1] at this
        exact this h1 (fun q h3 h4 => h2 q (by omega) h4)
      · have hpf : p (f j) = true := by rw [← hp]; show (!decide (f j ∈ ys)) = true; rw [cond_z h]; rfl
        have := hnx (upd f ((xs.take j).filter p).length (f j)) (by omega)
        rw [hpf, if_pos rfl, ← nI_1, List.length_append, show ((xs.take j).filter p).length + [f j].length = ((xs.take j).filter p).length + 1 from rfl, ← nI_1] at this
        rw [e1, nI_clamp (by omega), mset_mrow]
        refine this (fun q hq => ?_) (fun q h3 h4 => ?_)
        · by_cases he : q = ((xs.take j).filter p).length
          · rw [he, pk_us, List.getD_eq_getElem?_getD, List.getElem?_append_right (Nat.le_refl _), Nat.sub_self]; rfl
          · rw [pk_un he, h1 q (by omega), List.getD_eq_getElem?_getD, List.getD_eq_getElem?_getD, List.getElem?_append_left (by omega)]
        · rw [pk_un (by omega)]
          exact h2 q (by omega) h4
  have := key xs.length 0 (M 17) (by omega) (fun q h => absurd h (Nat.not_lt_zero _)) (fun q _ h => hx.2.2 q h)
  rw [mrow_self] at this
  exact this
theorem c_X4_removeAll_6 {l : Launch} (hl : l.stackTraces = false) (M : Mem) (o : Ou) {xs ys : List Int32} (hx : Lst (M 18) (M 6 1) xs) (hy : Lst (M 19) (M 7 1) ys) : Ct l 9 0 51 [.ref 6, .ref 7] M o (fun v M' o' => v = none ∧ o' = o ∧ ∃ f, M' = mset (mrow M 18 f) 6 1 (nI (xs.filter (fun x => !decide (x ∈ ys))).length) ∧ Lst f (nI (xs.filter (fun x => !decide (x ∈ ys))).length) (xs.filter (fun x => !decide (x ∈ ys)))) nX := by
  refine ct_plain hl ok51 (by decide) (by decide) rfl rfl (by decide) (Nat.le_of_ble_eq_true rfl) (fun G hG => hG 0 _ _ _ _ _ ?_)
  generalize hp : (fun x => !decide (x ∈ ys)) = p at hG
  have key : ∀ m j f, j + m = xs.length → (∀ q, q < ((xs.take j).filter p).length → f q = ((xs.take j).filter p).getD q 0) → (∀ q, j ≤ q → q < xs.length → f q = xs.getD q 0) → G 5 [some (.ref 6), some (.ref 7), some (.int (nI ((xs.take j).filter p).length)), some (.int (nI j))] [] (mrow M 18 f) o 0 := by
    have h8 := hx.2.1
    intro m
    induction m with
    | zero =>
      intro j f hj h1 h2
      refine hG 5 _ _ _ _ _ ?_
      refine ⟨fun _ => ?_, fun h => absurd (by rw [show mrow M 18 f 6 1 = nI xs.length from hx.1]; exact nI_le (by omega) (by omega)) h⟩
      refine hG 27 _ _ _ _ _ ?_
      rw [List.take_of_length_le (by omega)] at h1 ⊢
      have := List.length_filter_le p xs
      exact ⟨⟨rfl, rfl, f, rfl, rfl, by omega, h1⟩, Nat.le_refl _⟩
    | succ m ih =>
      intro j f hj h1 h2
      have e1 : (nI j).toNatClampNeg = j := nI_clamp (by omega)
      have hle := filter_take_len p xs j
      have hlx := List.length_filter_le p (xs.take j)
      have hnx := ih (j + 1)
      rw [take_snoc xs (by omega), filter_snoc, ← h2 j (Nat.le_refl _) (by omega)] at hnx
      refine hG 5 _ _ _ _ _ ?_
      refine ⟨fun h => absurd (by rw [← show mrow M 18 f 6 1 = nI xs.length from hx.1]; exact h) (nI_ge (a := j) (b := xs.length) (by omega) (by omega)), fun _ => ⟨vp_in_nI (show j < 8 by omega) (by decide), ?_⟩⟩
      refine clI (c_X4_contains hl (mrow M 18 f) o (i := 7) (n := ys.length) _ (by decide) hy.1 hy.2.1) (by decide) (by decide) ?_
      rw [show mrow M 18 f 18 = f from rfl, e1, show hasN (mrow M 18 f (7 + 12)) ys.length (f j) = decide (f j ∈ ys) from hy.has (f j)]
      refine ⟨fun h => ?_, fun h => ⟨vp_in_nI (show j < 8 by omega) (by decide), vp_in_nI (show ((xs.take j).filter p).length < 8 by omega) (by decide), ?_⟩⟩
      · refine hG 25 _ _ _ _ _ ?_
        have hpf : p (f j) = false := by rw [← hp]; show (!decide (f j ∈ ys)) = false; rw [cond_n h]; rfl
        have := hnx f (by omega)
        rw [hpf, if_neg (by decide), List.append_nil, ← nI_1] at this
        exact this h1 (fun q h3 h4 => h2 q (by omega) h4)
      · have hpf : p (f j) = true := by rw [← hp]; show (!decide (f j ∈ ys)) = true; rw [cond_z h]; rfl
        have := hnx (upd f ((xs.take j).filter p).length (f j)) (by omega)
        rw [hpf, if_pos rfl, ← nI_1, List.length_append, show ((xs.take j).filter p).length + [f j].length = ((xs.take j).filter p).length + 1 from rfl, ← nI_1] at this
        rw [e1, nI_clamp (by omega), mset_mrow]
        refine this (fun q hq => ?_) (fun q h3 h4 => ?_)
        · by_cases he : q = ((xs.take j).filter p).length
          · rw [he, pk_us, List.getD_eq_getElem?_getD, List.getElem?_append_right (Nat.le_refl _), Nat.sub_self]; rfl
          · rw [pk_un he, h1 q (by omega), List.getD_eq_getElem?_getD, List.getD_eq_getElem?_getD, List.getElem?_append_left (by omega)]
        · rw [pk_un (by omega)]
          exact h2 q (by omega) h4
  have := key xs.length 0 (M 18) (by omega) (fun q h => absurd h (Nat.not_lt_zero _)) (fun q _ h => hx.2.2 q h)
  rw [mrow_self] at this
  exact this
