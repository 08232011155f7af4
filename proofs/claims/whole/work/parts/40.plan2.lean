/-! CONTRACTS: the planner fills the lowest. -/
theorem sumN_upd (g : Nat → Nat) (i x : Nat) : ∀ n, i < n → sumN (updN g i x) n + g i = sumN g n + x := by
  intro n
  induction n with
  | zero => intro h; omega
  | succ n ih =>
    intro h
    show sumN (updN g i x) n + updN g i x n + g i = sumN g n + g n + x
    by_cases q : i = n
    · subst q
      have e : ∀ m, m ≤ i → sumN (updN g i x) m = sumN g m := by
        intro m
        induction m with
        | zero => intro _; rfl
        | succ m ihm =>
          intro hm
          show sumN (updN g i x) m + updN g i x m = sumN g m + g m
          rw [ihm (by omega)]
          unfold updN; rw [if_neg (by omega)]
      rw [e i (Nat.le_refl _)]
      unfold updN; rw [if_pos rfl]; omega
    · have := ih (by omega)
      have e : updN g i x n = g n := by unfold updN; rw [if_neg (fun q2 => q q2.symm)]
      rw [e]; omega
theorem sumN_zero {g : Nat → Nat} : ∀ {n}, (∀ j, j < n → g j = 0) → sumN g n = 0 := by
  intro n
  induction n with
  | zero => intro _; rfl
  | succ n ih => intro h; show sumN g n + g n = 0; rw [ih (fun j hj => h j (by omega)), h n (by omega)]
theorem updN_same (g : Nat → Nat) (i x : Nat) : updN g i x i = x := by unfold updN; rw [if_pos rfl]
theorem updN_ne (g : Nat → Nat) {i j : Nat} (x : Nat) (h : j ≠ i) : updN g i x j = g j := by unfold updN; rw [if_neg h]
/-- what the filling keeps: rides given lowest first, th the level of the last -/
def GI (Q C d : Nat → Nat) (n k th : Nat) : Prop := (∀ i, i < n → d i ≤ C i) ∧ sumN d n = k ∧ (∀ i j, i < n → j < n → 0 < d i → d j < C j → Q i + d i ≤ Q j + d j + 1) ∧ (k = 0 ∨ ((∃ i, i < n ∧ 0 < d i ∧ Q i + d i = th + 1) ∧ ∀ j, j < n → 0 < d j → Q j + d j ≤ th + 1))
theorem GI.step {Q C d : Nat → Nat} {n k th b : Nat} (h : GI Q C d n k th) (hb : lwF Q d C n = some b) : GI Q C (updN d b (d b + 1)) n (k + 1) (Q b + d b) := by
  obtain ⟨h1, h2, h3, h4⟩ := h
  obtain ⟨hbn, hbr⟩ := lwF_lt hb
  have hmin := lwF_min hb
  refine ⟨fun i hi => ?_, ?_, fun i j hi hj hp hr => ?_, Or.inr ⟨⟨b, hbn, ?_, ?_⟩, fun j hj hp => ?_⟩⟩
  · by_cases q : i = b
    · subst q; rw [updN_same]; omega
    · rw [updN_ne _ _ q]; exact h1 i hi
  · have := sumN_upd d b (d b + 1) n hbn; omega
  · by_cases qi : i = b
    · subst qi
      rw [updN_same]
      by_cases qj : j = i
      · subst qj; rw [updN_same]; omega
      · rw [updN_ne _ _ qj] at hr ⊢
        have := hmin j hj hr; omega
    · rw [updN_ne _ _ qi] at hp ⊢
      by_cases qj : j = b
      · subst qj
        rw [updN_same]
        have := h3 i j hi hj hp hbr; omega
      · rw [updN_ne _ _ qj] at hr ⊢
        exact h3 i j hi hj hp hr
  · rw [updN_same]; omega
  · rw [updN_same]; omega
  · by_cases qj : j = b
    · subst qj; rw [updN_same]; omega
    · rw [updN_ne _ _ qj] at hp ⊢
      have := h3 j b hj hbn hp hbr; omega
theorem c_X2_fillLowest {l : Launch} (hl : l.stackTraces = false) (M : Mem) (o : Ou) {n N : Nat} {Q C : Nat → Nat} (hn : n ≤ 8) (hN : N ≤ 6) (hf : M 9 6 = nI n) (hQ : Nv (M 25) (fun j => 7 * Q j) n) (hC : Nv (M 26) C n) (bQ : ∀ j, j < n → Q j < 10000000) (bC : ∀ j, j < n → C j ≤ 2) : Ct l 10 0 25 [.ref 9, .int (nI N)] M o (fun v M' o' => o' = o ∧ ∃ f t d k th, v = some (.int (nI k)) ∧ M' = mset (mrow M 27 f) 9 7 t ∧ Nv f d n ∧ GI Q C d n k th ∧ (k = 0 ∨ t = nI (7 * th)) ∧ k ≤ N ∧ (k = N ∨ ∀ j, j < n → ¬ d j < C j)) nX := by
  refine ct_plain hl ok25 (by decide) (by decide) rfl rfl (by decide) (Nat.le_of_ble_eq_true rfl) (fun G hG => hG 0 _ _ _ _ _ ?_)
  have k17 : ∀ m k c f t d th, k + m = N → Nv f d n → GI Q C d n k th → (k = 0 ∨ t = nI (7 * th)) → G 17 [some (.ref 9), some (.int (nI N)), some (.int (nI k)), c] [] (mset (mrow M 27 f) 9 7 t) o 0 := by
    intro m
    induction m with
    | zero =>
      intro k c f t d th hk hd hg ht
      refine hG 17 _ _ _ _ _ ?_
      refine ⟨fun _ => ?_, fun h => absurd (nI_le (by omega) (by omega)) h⟩
      refine hG 43 _ _ _ _ _ ?_
      have : k = N := by omega
      subst this
      exact ⟨⟨rfl, f, t, d, k, th, rfl, rfl, hd, hg, ht, Nat.le_refl _, Or.inl rfl⟩, Nat.le_refl _⟩
    | succ m ih =>
      intro k c f t d th hk hd hg ht
      have bd : ∀ j, j < n → d j ≤ 2 := fun j hj => Nat.le_trans (hg.1 j hj) (bC j hj)
      refine hG 17 _ _ _ _ _ ?_
      refine ⟨fun h => absurd h (nI_ge (a := k) (b := N) (by omega) (by omega)), fun _ => clI (c_X2_lowestWithRoom hl (mset (mrow M 27 f) 9 7 t) o (n := n) (Q := Q) (D := d) (C := C) hn hf hQ hd hC bQ bd bC) (by decide) (by decide) ?_⟩
      cases hr : lwF Q d C n with
      | none =>
        refine ⟨fun h => absurd rfl h, fun _ => ?_⟩
        exact ⟨⟨rfl, f, t, d, k, th, rfl, rfl, hd, hg, ht, by omega, Or.inr (lwF_none hr)⟩, Nat.le_refl _⟩
      | some b =>
        obtain ⟨hbn, hbr⟩ := lwF_lt hr
        refine ⟨fun _ => ?_, fun h => absurd h (im1 b (by omega))⟩
        refine hG 28 _ _ _ _ _ ?_
        refine clI (c_X2_levelNow hl (mset (mrow M 27 f) 9 7 t) o (n := n) (Q := Q) (D := d) hQ hd hbn hn) (by decide) (by decide) ⟨vp_in_nI (show b < 8 by omega) (by decide), vp_in_nI (show b < 8 by omega) (by decide), ?_⟩
        have hnx := ih (k + 1) (some (.int (nI b))) _ _ _ _ (by omega) (hd.up b (d b + 1)) (hg.step hr) (Or.inr rfl)
        rw [← nI_1] at hnx
        have em : mset (mset (mset (mrow M 27 f) 9 7 t) 9 7 (nI (7 * (Q b + d b)))) 27 (nI b).toNatClampNeg ((mset (mset (mrow M 27 f) 9 7 t) 9 7 (nI (7 * (Q b + d b)))) 27 (nI b).toNatClampNeg + 1) = mset (mrow M 27 (upd f b (nI (d b + 1)))) 9 7 (nI (7 * (Q b + d b))) := by
          rw [nI_clamp (by omega), show (mset (mset (mrow M 27 f) 9 7 t) 9 7 (nI (7 * (Q b + d b)))) 27 b = nI (d b) from hd b hbn, nI_1]
          funext z
          by_cases h1 : z = 27
          · subst h1; rfl
          by_cases h2 : z = 9
          · subst h2; exact congrFun (mset_mset M 9 7 _ _) 9
          · simp [mset, mrow, h1, h2]
        rw [show oI (some b) = nI b from rfl, em]
        exact hnx
  have k3 : ∀ m j, j + m = n → G 3 [some (.ref 9), some (.int (nI N)), some (.int (nI j)), none] [] (mrow M 27 (fun q => if q < j then 0 else M 27 q)) o 0 := by
    intro m
    induction m with
    | zero =>
      intro j hj
      refine hG 3 _ _ _ _ _ ?_
      refine ⟨fun _ => ?_, fun h => absurd (by rw [show mrow M 27 _ 9 6 = nI n from hf]; exact nI_le (by omega) (by omega)) h⟩
      refine hG 14 _ _ _ _ _ ?_
      have := k17 N 0 none (fun q => if q < j then 0 else M 27 q) (M 9 7) (fun _ => 0) 0 (by omega) (fun q hq => by show (if q < j then _ else _) = _; rw [if_pos (by omega)]; rfl) ⟨fun i _ => Nat.zero_le _, sumN_zero (fun _ _ => rfl), fun i j _ _ h => absurd h (Nat.not_lt_zero _), Or.inl rfl⟩ (Or.inl rfl)
      rw [show mset (mrow M 27 (fun q => if q < j then 0 else M 27 q)) 9 7 (M 9 7) = mrow M 27 (fun q => if q < j then 0 else M 27 q) from mset_self (mrow M 27 (fun q => if q < j then 0 else M 27 q)) 9 7] at this
      exact this
    | succ m ih =>
      intro j hj
      refine hG 3 _ _ _ _ _ ?_
      refine ⟨fun h => absurd (by rw [← show mrow M 27 _ 9 6 = nI n from hf]; exact h) (nI_ge (a := j) (b := n) (by omega) (by omega)), fun _ => ⟨vp_in_nI (show j < 8 by omega) (by decide), ?_⟩⟩
      have hnx := ih (j + 1) (by omega)
      rw [← nI_1] at hnx
      rw [nI_clamp (by omega), mset_mrow, upd_fill]
      exact hnx
  have := k3 n 0 (by omega)
  rw [show (fun q => if q < 0 then 0 else M 27 q) = M 27 by funext q; simp, mrow_self] at this
  exact this
/-- the split by a threshold -/
def dF0 (Q C : Nat → Nat) (th i : Nat) : Nat := min (C i) (th - Q i)
def sF0 (Q C : Nat → Nat) (th i : Nat) : Bool := decide (Q i ≤ th ∧ th < Q i + C i)
theorem sumN_mono {f g : Nat → Nat} : ∀ {n}, (∀ j, j < n → f j ≤ g j) → sumN f n ≤ sumN g n := by
  intro n
  induction n with
  | zero => intro _; exact Nat.le_refl _
  | succ n ih =>
    intro h
    have h1 := ih (fun j hj => h j (by omega))
    have h2 := h n (by omega)
    show sumN f n + f n ≤ sumN g n + g n
    omega
theorem sumN_le_of {f : Nat → Nat} : ∀ {j n}, j ≤ n → sumN f j ≤ sumN f n := by
  intro j n h
  induction n with
  | zero => rw [show j = 0 by omega]; exact Nat.le_refl _
  | succ n ih =>
    by_cases q : j = n + 1
    · rw [q]; exact Nat.le_refl _
    · have := ih (by omega)
      show _ ≤ sumN f n + f n
      omega
theorem c_X2_splitByThreshold {l : Launch} (hl : l.stackTraces = false) (M : Mem) (o : Ou) {n R th : Nat} {Q C : Nat → Nat} (hn : n ≤ 8) (hR : R ≤ 6) (hf : M 9 6 = nI n) (hQ : Nv (M 25) (fun j => 7 * Q j) n) (hC : Nv (M 26) C n) (bQ : ∀ j, j < n → Q j < 10000000) (bC : ∀ j, j < n → C j ≤ 2) (ht : (∀ j, j < n → C j = 0) ∨ (M 9 7 = nI (7 * th) ∧ th < 100000000)) (hs : sumN (dF0 Q C th) n ≤ R) : Ct l 8 0 28 [.ref 9, .int (nI R)] M o (fun v M' o' => v = none ∧ o' = o ∧ ∃ f g, M' = mset (mrow (mrow M 27 f) 28 g) 9 8 (nI (R - sumN (dF0 Q C th) n)) ∧ Nv f (dF0 Q C th) n ∧ Bv g (sF0 Q C th) n) nX := by
  refine ct_plain hl ok28 (by decide) (by decide) rfl rfl (by decide) (Nat.le_of_ble_eq_true rfl) (fun G hG => hG 0 _ _ _ _ _ ?_)
  have k6 : ∀ m i a b f g, i + m = n → Nv f (dF0 Q C th) i → Bv g (sF0 Q C th) i → G 6 [some (.ref 9), some (.int (nI R)), some (.int (nI i)), a, b] [] (mset (mrow (mrow M 27 f) 28 g) 9 8 (nI (R - sumN (dF0 Q C th) i))) o 0 := by
    intro m
    induction m with
    | zero =>
      intro i a b f g hi h1 h2
      have : i = n := by omega
      subst this
      refine hG 6 _ _ _ _ _ ?_
      refine ⟨fun _ => ?_, fun h => absurd (by rw [show mset (mrow (mrow M 27 f) 28 g) 9 8 _ 9 6 = nI i from hf]; exact nI_le (by omega) (by omega)) h⟩
      refine hG 73 _ _ _ _ _ ?_
      exact ⟨⟨rfl, rfl, f, g, rfl, h1, h2⟩, Nat.le_refl _⟩
    | succ m ih =>
      intro i a b f g hi h1 h2
      have hlt : i < n := by omega
      have bq := bQ i hlt
      have bc := bC i hlt
      have e1 : (nI i).toNatClampNeg = i := nI_clamp (by omega)
      have i8 : vp_in (nI i) 8 := vp_in_nI (by omega) (by decide)
      generalize hx : nI (R - sumN (dF0 Q C th) i) = x
      -- the rides of one pony
      have k23 : ∀ q r a b c f' g', r + q = C i → a = some (.int (nI i)) → b = some (.int (nI r)) → Nv f' (dF0 Q C th) i → Bv g' (sF0 Q C th) i → f' i = nI (min r (th - Q i)) → g' i = cond (decide (Q i ≤ th ∧ th < Q i + r)) 1 0 → G 23 [some (.ref 9), some (.int (nI R)), a, b, c] [] (mset (mrow (mrow M 27 f') 28 g') 9 8 x) o 0 := by
        intro q
        induction q with
        | zero =>
          intro r a b c f' g' hr ha hb h3 h4 h5 h6
          subst ha hb
          have : r = C i := by omega
          subst this
          refine hG 23 _ _ _ _ _ ?_
          refine ⟨i8, ?_⟩
          rw [e1, show mset (mrow (mrow M 27 f') 28 g') 9 8 x 26 i = nI (C i) from hC i hlt]
          refine ⟨fun _ => ?_, fun h => absurd (nI_le (Nat.le_refl _) (by omega)) h⟩
          refine hG 62 _ _ _ _ _ ?_
          refine ⟨i8, ?_⟩
          rw [e1, show mset (mrow (mrow M 27 f') 28 g') 9 8 x 27 i = nI (dF0 Q C th i) from h5, show mset (mrow (mrow M 27 f') 28 g') 9 8 x 9 8 = x from mset_same _ _ _ _]
          have hle : sumN (dF0 Q C th) i + dF0 Q C th i ≤ R := Nat.le_trans (sumN_le_of (f := dF0 Q C th) (j := i + 1) (n := n) (by omega)) hs
          have hnx := ih (i + 1) (some (.int (nI (C i)))) c f' g' (by omega) (fun j hj => by
            by_cases w : j = i
            · subst w; exact h5
            · exact h3 j (by omega)) (fun j hj => by
            by_cases w : j = i
            · subst w; exact h6
            · exact h4 j (by omega))
          rw [← nI_1, show R - sumN (dF0 Q C th) (i + 1) = (R - sumN (dF0 Q C th) i) - dF0 Q C th i by show R - (sumN (dF0 Q C th) i + dF0 Q C th i) = _; omega, ← pk_sub (by omega), hx] at hnx
          rw [← mset_mset (mrow (mrow M 27 f') 28 g') 9 8 x (x - nI (dF0 Q C th i))] at hnx
          exact hnx
        | succ q ihq =>
          intro r a b c f' g' hr ha hb h3 h4 h5 h6
          subst ha hb
          obtain ⟨ht, bt⟩ : M 9 7 = nI (7 * th) ∧ th < 100000000 := ht.resolve_left (fun w => by have := w i hlt; omega)
          have e2 : nI (7 * Q i) + nI r * 7 = nI (7 * (Q i + r)) := by rw [i7, pk_mul, nI_add, Nat.mul_add, Nat.mul_comm r 7]
          refine hG 23 _ _ _ _ _ ?_
          refine ⟨i8, ?_⟩
          rw [e1, show mset (mrow (mrow M 27 f') 28 g') 9 8 x 26 i = nI (C i) from hC i hlt]
          refine ⟨fun h => absurd h (nI_ge (by omega) (by omega)), fun _ => ⟨i8, ?_⟩⟩
          rw [e1, show mset (mrow (mrow M 27 f') 28 g') 9 8 x 25 i = nI (7 * Q i) from hQ i hlt]
          refine ⟨fun h => ?_, fun h => ?_⟩
          · rw [e2, show mset (mrow (mrow M 27 f') 28 g') 9 8 x 9 7 = nI (7 * th) from ht] at h
            have h : th ≤ Q i + r := by have := (nI_leI (by omega) (by omega)).mp h; omega
            refine hG 51 _ _ _ _ _ ?_
            refine ⟨fun h7 => ?_, fun h7 => ?_⟩
            · rw [e2, show mset (mrow (mrow M 27 f') 28 g') 9 8 x 9 7 = nI (7 * th) from ht] at h7
              have h7 : ¬ Q i + r = th := fun w => h7 (by rw [w])
              refine hG 60 _ _ _ _ _ ?_
              have hnx := ihq (r + 1) (some (.int (nI i))) (some (.int (nI r + 1))) (some (.int (nI (7 * Q i) + nI r * 7))) f' g' (by omega) rfl (by rw [nI_1]) h3 h4 (by rw [h5]; congr 1; omega) (by rw [h6]; congr 1; exact decide_eq_decide.mpr (by omega))
              exact hnx
            · rw [e2, show mset (mrow (mrow M 27 f') 28 g') 9 8 x 9 7 = nI (7 * th) from ht] at h7
              have h7 : Q i + r = th := by have := nI_inj (by omega) (by omega) h7; omega
              refine ⟨i8, bz1, ?_⟩
              rw [e1]
              have em : mset (mset (mrow (mrow M 27 f') 28 g') 9 8 x) 28 i 1 = mset (mrow (mrow M 27 f') 28 (upd g' i 1)) 9 8 x := by
                funext z
                by_cases w1 : z = 28
                · subst w1; rfl
                by_cases w2 : z = 9
                · subst w2; rfl
                · simp [mset, mrow, w1, w2]
              rw [em]
              have hnx := ihq (r + 1) (some (.int (nI i))) (some (.int (nI r + 1))) (some (.int (nI (7 * Q i) + nI r * 7))) f' (upd g' i 1) (by omega) rfl (by rw [nI_1]) h3 (fun j hj => by rw [pk_un (by omega)]; exact h4 j hj) (by rw [h5]; congr 1; omega) (by rw [pk_us, decide_eq_true (by omega)]; rfl)
              exact hnx
          · rw [e2, show mset (mrow (mrow M 27 f') 28 g') 9 8 x 9 7 = nI (7 * th) from ht] at h
            have h : Q i + r < th := by have := Nat.not_le.mp (fun w => h (nI_le w (by omega))); omega
            refine ⟨i8, i8, ?_⟩
            rw [e1, show mset (mrow (mrow M 27 f') 28 g') 9 8 x 27 i = nI (min r (th - Q i)) from h5, nI_1]
            have em : mset (mset (mrow (mrow M 27 f') 28 g') 9 8 x) 27 i (nI (min r (th - Q i) + 1)) = mset (mrow (mrow M 27 (upd f' i (nI (min r (th - Q i) + 1)))) 28 g') 9 8 x := by
              funext z
              by_cases w1 : z = 28
              · subst w1; rfl
              by_cases w3 : z = 27
              · subst w3; rfl
              by_cases w2 : z = 9
              · subst w2; rfl
              · simp [mset, mrow, w1, w2, w3]
            rw [em]
            refine hG 60 _ _ _ _ _ ?_
            have hnx := ihq (r + 1) (some (.int (nI i))) (some (.int (nI r + 1))) (some (.int (nI (7 * Q i) + nI r * 7))) (upd f' i (nI (min r (th - Q i) + 1))) g' (by omega) rfl (by rw [nI_1]) (fun j hj => by rw [pk_un (by omega)]; exact h3 j hj) h4 (by rw [pk_us]; congr 1; omega) (by rw [h6]; congr 1; exact decide_eq_decide.mpr (by omega))
            exact hnx
      refine hG 6 _ _ _ _ _ ?_
      refine ⟨fun h => absurd (by rw [← show mset (mrow (mrow M 27 f) 28 g) 9 8 x 9 6 = nI n from hf]; exact h) (nI_ge (a := i) (b := n) (by omega) (by omega)), fun _ => ⟨i8, i8, bz0, ?_⟩⟩
      rw [e1]
      have em : mset (mset (mset (mrow (mrow M 27 f) 28 g) 9 8 x) 27 i 0) 28 i 0 = mset (mrow (mrow M 27 (upd f i 0)) 28 (upd g i 0)) 9 8 x := by
        funext z
        by_cases w1 : z = 28
        · subst w1; rfl
        by_cases w3 : z = 27
        · subst w3; rfl
        by_cases w2 : z = 9
        · subst w2; rfl
        · simp [mset, mrow, w1, w2, w3]
      rw [em]
      exact k23 (C i) 0 _ _ b _ _ (by omega) rfl rfl (fun j hj => by rw [pk_un (by omega)]; exact h1 j hj) (fun j hj => by rw [pk_un (by omega)]; exact h2 j hj) (by rw [pk_us, Nat.zero_min]; rfl) (by rw [pk_us, decide_eq_false (by omega)]; rfl)
  have := k6 n 0 none none (M 27) (M 28) (by omega) (fun j hj => absurd hj (Nat.not_lt_zero _)) (fun j hj => absurd hj (Nat.not_lt_zero _))
  rw [mrow_self, mrow_self] at this
  exact this
