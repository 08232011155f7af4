/-! CONTRACTS: Stable. -/
def mrow (M : Mem) (a : Nat) (f : Nat → Int32) : Mem := fun b => if b = a then f else M b
theorem mrow_same (M : Mem) (a : Nat) (f : Nat → Int32) : mrow M a f a = f := by simp [mrow]
theorem mrow_ne {M : Mem} {a b : Nat} (f : Nat → Int32) (h : b ≠ a) : mrow M a f b = M b := by simp [mrow, h]
theorem mrow_self (M : Mem) (a : Nat) : mrow M a (M a) = M := by
  funext b; unfold mrow; split
  · rename_i h; rw [h]
  · rfl
theorem mset_mrow (M : Mem) (a : Nat) (f : Nat → Int32) (k : Nat) (x : Int32) : mset (mrow M a f) a k x = mrow M a (upd f k x) := by
  funext b; unfold mset mrow; split <;> simp_all
theorem mset_as (M : Mem) (a k : Nat) (x : Int32) : mset M a k x = mrow M a (upd (M a) k x) := by
  funext b; unfold mset mrow; split <;> simp_all
theorem upd_fill (f : Nat → Int32) (j : Nat) (c : Int32) : upd (fun q => if q < j then c else f q) j c = fun q => if q < j + 1 then c else f q := by
  funext q
  unfold upd
  by_cases h1 : q = j
  · rw [if_pos h1, if_pos (by omega)]
  · rw [if_neg h1]
    show (if q < j then c else f q) = _
    by_cases h2 : q < j
    · rw [if_pos h2, if_pos (by omega)]
    · rw [if_neg h2, if_neg (by omega)]
def cntN (f : Nat → Int32) (t : Int32) : Nat → Nat
  | 0 => 0
  | n + 1 => cntN f t n + (if f n = t then 1 else 0)
theorem cntN_le (f : Nat → Int32) (t : Int32) : ∀ n, cntN f t n ≤ n := by
  intro n
  induction n with
  | zero => exact Nat.le_refl _
  | succ n ih => simp only [cntN]; split <;> omega
theorem c_X5_ponies {l : Launch} (hl : l.stackTraces = false) (M : Mem) (o : Ou) : Ct l 8 0 53 [.ref 8] M o (rI (M 8 4) M o) nX := by
  refine ct_plain hl ok53 (by decide) (by decide) rfl rfl (by decide) (Nat.le_of_ble_eq_true rfl) (fun G hG => hG 0 _ _ _ _ _ ?_)
  exact ⟨⟨rfl, rfl, rfl⟩, Nat.le_refl _⟩
theorem c_X5_today {l : Launch} (hl : l.stackTraces = false) (M : Mem) (o : Ou) : Ct l 8 0 54 [.ref 8] M o (rI (M 8 5) M o) nX := by
  refine ct_plain hl ok54 (by decide) (by decide) rfl rfl (by decide) (Nat.le_of_ble_eq_true rfl) (fun G hG => hG 0 _ _ _ _ _ ?_)
  exact ⟨⟨rfl, rfl, rfl⟩, Nat.le_refl _⟩
theorem c_X5_isFull {l : Launch} (hl : l.stackTraces = false) (M : Mem) (o : Ou) : Ct l 8 0 55 [.ref 8] M o (rI (if M 8 4 < 60 then 0 else 1) M o) nX := by
  refine ct_plain hl ok55 (by decide) (by decide) rfl rfl (by decide) (Nat.le_of_ble_eq_true rfl) (fun G hG => hG 0 _ _ _ _ _ ?_)
  refine ⟨fun h => ?_, fun h => ?_⟩
  · refine hG 6 _ _ _ _ _ ?_
    exact ⟨bz0, ⟨by rw [if_pos h], rfl, rfl⟩, Nat.le_refl _⟩
  · refine hG 7 _ _ _ _ _ ?_
    exact ⟨bz1, ⟨by rw [if_neg h], rfl, rfl⟩, Nat.le_refl _⟩
theorem c_X5_poniesOf {l : Launch} (hl : l.stackTraces = false) (M : Mem) (o : Ou) {n : Nat} (t : Int32) (hf : M 8 4 = nI n) (hn : n ≤ 60) : Ct l 8 0 56 [.ref 8, .int t] M o (rI (nI (cntN (M 20) t n)) M o) nX := by
  refine ct_plain hl ok56 (by decide) (by decide) rfl rfl (by decide) (Nat.le_of_ble_eq_true rfl) (fun G hG => hG 0 _ _ _ _ _ ?_)
  have key : ∀ m j, j + m = n → G 5 [some (.ref 8), some (.int t), some (.int (nI (cntN (M 20) t j))), some (.int (nI j))] [] M o 0 := by
    intro m
    induction m with
    | zero =>
      intro j hj
      refine hG 5 _ _ _ _ _ ?_
      refine ⟨fun _ => ?_, fun h => absurd (by rw [hf]; exact nI_le (by omega) (by omega)) h⟩
      refine hG 18 _ _ _ _ _ ?_
      rw [show j = n by omega]
      exact ⟨⟨rfl, rfl, rfl⟩, Nat.le_refl _⟩
    | succ m ih =>
      intro j hj
      refine hG 5 _ _ _ _ _ ?_
      have hnx := ih (j + 1) (by omega)
      refine ⟨fun h => absurd (by rw [← hf]; exact h) (nI_ge (a := j) (b := n) (by omega) (by omega)), fun _ => ⟨vp_in_nI (show j < 60 by omega) (by decide), fun h => ?_, fun h => ?_⟩⟩
      · rw [nI_clamp (by omega)] at h
        refine hG 16 _ _ _ _ _ ?_
        rw [cntN, if_neg h, Nat.add_zero, ← nI_1] at hnx
        exact hnx
      · rw [nI_clamp (by omega)] at h
        rw [cntN, if_pos h, ← nI_1, ← nI_1] at hnx
        exact hnx
  exact key n 0 (by omega)
theorem c_X5_addPony {l : Launch} (hl : l.stackTraces = false) (M : Mem) (o : Ou) {n : Nat} (t : Int32) (hf : M 8 4 = nI n) (hn : n < 60) : Ct l 8 0 57 [.ref 8, .int t] M o (rI (nI n) (mset (mset M 20 n t) 8 4 (nI (n + 1))) o) nX := by
  refine ct_plain hl ok57 (by decide) (by decide) rfl rfl (by decide) (Nat.le_of_ble_eq_true rfl) (fun G hG => hG 0 _ _ _ _ _ ?_)
  have e1 : (M 8 4).toNatClampNeg = n := by rw [hf, nI_clamp (by omega)]
  refine ⟨by rw [hf]; exact vp_in_nI hn (by decide), ⟨?_, ?_, rfl⟩, Nat.le_refl _⟩
  · show some (Value.int (M 8 4 + 1 - 1)) = _
    rw [hf, nI_1, nI_pred]
  · show mset (mset M _ (M 8 4).toNatClampNeg t) _ _ (M 8 4 + 1) = _
    rw [e1, hf, nI_1]
theorem c_X5_isLame {l : Launch} (hl : l.stackTraces = false) (M : Mem) (o : Ou) (p : Int32) (hin : vp_in p 60) : Ct l 8 0 59 [.ref 8, .int p] M o (rI (if M 23 p.toNatClampNeg ≤ M 8 5 then 0 else 1) M o) nX := by
  refine ct_plain hl ok59 (by decide) (by decide) rfl rfl (by decide) (Nat.le_of_ble_eq_true rfl) (fun G hG => hG 0 _ _ _ _ _ ?_)
  refine ⟨hin, fun h => ?_, fun h => ?_⟩
  · refine hG 9 _ _ _ _ _ ?_
    exact ⟨bz0, ⟨by rw [if_pos h], rfl, rfl⟩, Nat.le_refl _⟩
  · refine hG 10 _ _ _ _ _ ?_
    exact ⟨bz1, ⟨by rw [if_neg h], rfl, rfl⟩, Nat.le_refl _⟩
theorem c_X5_layUp {l : Launch} (hl : l.stackTraces = false) (M : Mem) (o : Ou) (p t : Int32) (hin : vp_in p 60) : Ct l 9 0 58 [.ref 8, .int p, .int t] M o (rI (if t ≤ M 8 5 then 0 else 1) (mset M 23 p.toNatClampNeg t) o) nX := by
  refine ct_plain hl ok58 (by decide) (by decide) rfl rfl (by decide) (Nat.le_of_ble_eq_true rfl) (fun G hG => hG 0 _ _ _ _ _ ?_)
  refine ⟨hin, clI (c_X5_isLame hl _ o p hin) (by decide) (by decide) ⟨?_, ⟨?_, rfl, rfl⟩, Nat.le_refl _⟩⟩
  · split
    · exact bz0
    · exact bz1
  · rw [show mset M 23 p.toNatClampNeg t 23 p.toNatClampNeg = t from mset_same _ _ _ _]
    rfl
theorem c_X5_ownerOf {l : Launch} (hl : l.stackTraces = false) (M : Mem) (o : Ou) (p : Int32) (hin : vp_in p 60) : Ct l 8 0 60 [.ref 8, .int p] M o (rI (M 20 p.toNatClampNeg) M o) nX := by
  refine ct_plain hl ok60 (by decide) (by decide) rfl rfl (by decide) (Nat.le_of_ble_eq_true rfl) (fun G hG => hG 0 _ _ _ _ _ ?_)
  exact ⟨hin, ⟨rfl, rfl, rfl⟩, Nat.le_refl _⟩
theorem c_X5_ledOf {l : Launch} (hl : l.stackTraces = false) (M : Mem) (o : Ou) (p : Int32) (hin : vp_in p 60) : Ct l 8 0 61 [.ref 8, .int p] M o (rI (M 21 p.toNatClampNeg) M o) nX := by
  refine ct_plain hl ok61 (by decide) (by decide) rfl rfl (by decide) (Nat.le_of_ble_eq_true rfl) (fun G hG => hG 0 _ _ _ _ _ ?_)
  exact ⟨hin, ⟨rfl, rfl, rfl⟩, Nat.le_refl _⟩
theorem c_X5_ridesToday {l : Launch} (hl : l.stackTraces = false) (M : Mem) (o : Ou) (p : Int32) (hin : vp_in p 60) : Ct l 8 0 62 [.ref 8, .int p] M o (rI (M 22 p.toNatClampNeg) M o) nX := by
  refine ct_plain hl ok62 (by decide) (by decide) rfl rfl (by decide) (Nat.le_of_ble_eq_true rfl) (fun G hG => hG 0 _ _ _ _ _ ?_)
  exact ⟨hin, ⟨rfl, rfl, rfl⟩, Nat.le_refl _⟩
theorem c_X5_ridesLeft {l : Launch} (hl : l.stackTraces = false) (M : Mem) (o : Ou) (p : Int32) (hin : vp_in p 60) : Ct l 9 0 63 [.ref 8, .int p] M o (rI (if M 23 p.toNatClampNeg ≤ M 8 5 then 2 - M 22 p.toNatClampNeg else 0) M o) nX := by
  refine ct_plain hl ok63 (by decide) (by decide) rfl rfl (by decide) (Nat.le_of_ble_eq_true rfl) (fun G hG => hG 0 _ _ _ _ _ ?_)
  refine clI (c_X5_isLame hl M o p hin) (by decide) (by decide) ⟨fun h => ?_, fun h => ?_⟩
  · refine hG 6 _ _ _ _ _ ?_
    have h1 : M 23 p.toNatClampNeg ≤ M 8 5 := by
      by_cases q : M 23 p.toNatClampNeg ≤ M 8 5
      · exact q
      · rw [if_neg q] at h; exact absurd h (by decide)
    exact ⟨hin, ⟨by rw [if_pos h1], rfl, rfl⟩, Nat.le_refl _⟩
  · refine hG 12 _ _ _ _ _ ?_
    have h1 : ¬ M 23 p.toNatClampNeg ≤ M 8 5 := fun q => h (by rw [if_pos q])
    exact ⟨⟨by rw [if_neg h1], rfl, rfl⟩, Nat.le_refl _⟩
theorem c_X5_ride {l : Launch} (hl : l.stackTraces = false) (M : Mem) (o : Ou) (p : Int32) (hin : vp_in p 60) : Ct l 8 0 64 [.ref 8, .int p] M o (rV (mset (mset M 22 p.toNatClampNeg (M 22 p.toNatClampNeg + 1)) 21 p.toNatClampNeg (M 21 p.toNatClampNeg + 7)) o) nX := by
  refine ct_plain hl ok64 (by decide) (by decide) rfl rfl (by decide) (Nat.le_of_ble_eq_true rfl) (fun G hG => hG 0 _ _ _ _ _ ?_)
  exact ⟨hin, hin, hin, hin, ⟨rfl, rfl, rfl⟩, Nat.le_refl _⟩
theorem c_X5_nextDay {l : Launch} (hl : l.stackTraces = false) (M : Mem) (o : Ou) {n : Nat} (hf : M 8 4 = nI n) (hn : n ≤ 60) : Ct l 8 0 65 [.ref 8] M o (rI (M 8 5 + 1) (mset (mrow M 22 (fun j => if j < n then 0 else M 22 j)) 8 5 (M 8 5 + 1)) o) nX := by
  refine ct_plain hl ok65 (by decide) (by decide) rfl rfl (by decide) (Nat.le_of_ble_eq_true rfl) (fun G hG => hG 0 _ _ _ _ _ ?_)
  have key : ∀ m j, j + m = n → G 3 [some (.ref 8), some (.int (nI j))] [] (mrow M 22 (fun q => if q < j then 0 else M 22 q)) o 0 := by
    intro m
    induction m with
    | zero =>
      intro j hj
      refine hG 3 _ _ _ _ _ ?_
      refine ⟨fun _ => ?_, fun h => absurd (by rw [show mrow M 22 _ 8 4 = nI n from hf]; exact nI_le (by omega) (by omega)) h⟩
      refine hG 14 _ _ _ _ _ ?_
      rw [show j = n by omega]
      exact ⟨⟨rfl, rfl, rfl⟩, Nat.le_refl _⟩
    | succ m ih =>
      intro j hj
      refine hG 3 _ _ _ _ _ ?_
      refine ⟨fun h => absurd (by rw [← show mrow M 22 _ 8 4 = nI n from hf]; exact h) (nI_ge (a := j) (b := n) (by omega) (by omega)), fun _ => ⟨vp_in_nI (show j < 60 by omega) (by decide), ?_⟩⟩
      have hnx := ih (j + 1) (by omega)
      rw [← nI_1] at hnx
      rw [nI_clamp (by omega), mset_mrow]
      rw [upd_fill]
      exact hnx
  have := key n 0 (by omega)
  rw [show (fun q => if q < 0 then 0 else M 22 q) = M 22 by funext q; simp, mrow_self] at this
  exact this
