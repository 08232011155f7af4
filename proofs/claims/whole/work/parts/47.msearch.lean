/-! CONTRACTS: the reference's search, its small pieces. -/
theorem c_X8_total {l : Launch} (hl : l.stackTraces = false) (M : Mem) (o : Ou) {n : Nat} {s : Nat → Nat} (hn : n ≤ 8) (hf : M 11 35 = nI n) (hs : Nv (M 52) s n) : Ct l 8 0 151 [.ref 11] M o (rI (nI (sumN s n)) M o) nX := by
  refine ct_plain hl ok151 (by decide) (by decide) rfl rfl (by decide) (Nat.le_of_ble_eq_true rfl) (fun G hG => hG 0 _ _ _ _ _ ?_)
  have key : ∀ m j, j + m = n → G 5 [some (.ref 11), some (.int (nI (sumN s j))), some (.int (nI j))] [] M o 0 := by
    intro m
    induction m with
    | zero =>
      intro j hj
      refine hG 5 _ _ _ _ _ ?_
      refine ⟨fun _ => ?_, fun h => absurd (by rw [hf]; exact nI_le (by omega) (by omega)) h⟩
      refine hG 18 _ _ _ _ _ ?_
      rw [show j = n by omega]
      exact ⟨⟨rfl, rfl, rfl⟩, Nat.le_refl _⟩
    | succ m ih =>
      intro j hj
      have hnx := ih (j + 1) (by omega)
      rw [show sumN s (j + 1) = sumN s j + s j from rfl, ← nI_add, ← nI_1] at hnx
      refine hG 5 _ _ _ _ _ ?_
      refine ⟨fun h => absurd (by rw [← hf]; exact h) (nI_ge (a := j) (b := n) (by omega) (by omega)), fun _ => ⟨vp_in_nI (show j < 8 by omega) (by decide), ?_⟩⟩
      rw [nI_clamp (by omega), hs j (by omega)]
      exact hnx
  exact key n 0 (by omega)
/-- X is x sorted down -/
def Sd (X x : Nat → Nat) (n : Nat) : Prop := ∀ j, j < n → ∀ t, t ≤ X j ↔ j < cnG x t n
theorem cnG_succ (x : Nat → Nat) (t n : Nat) : cnG x t (n + 1) = cnG x t n + (if t ≤ x n then 1 else 0) := by
  unfold cnG
  simp only [cnB]
  congr 1
  by_cases h : t ≤ x n
  · rw [if_pos h, if_pos (decide_eq_true h)]
  · rw [if_neg h, if_neg (by rw [decide_eq_false h]; decide)]
theorem cnG_le (x : Nat → Nat) (t n : Nat) : cnG x t n ≤ n := cnB_le _ _
theorem Sd.ins {X x : Nat → Nat} {k i : Nat} (h : Sd X x k) (hi : i ≤ k) (h1 : i = 0 ∨ x k ≤ X (i - 1)) (h2 : i < k → X i < x k) : Sd (fun j => if j < i then X j else if j = i then x k else X (j - 1)) x (k + 1) := by
  intro j hj t
  rw [cnG_succ]
  show t ≤ (if j < i then X j else if j = i then x k else X (j - 1)) ↔ _
  have hle := cnG_le x t k
  rcases Nat.lt_trichotomy j i with q | q | q
  · rw [if_pos q, h j (by omega) t]
    by_cases ht : t ≤ x k
    · rw [if_pos ht]
      have h3 : x k ≤ X (i - 1) := h1.resolve_left (by omega)
      have h4 := (h (i - 1) (by omega) t).mp (by omega)
      omega
    · rw [if_neg ht]; omega
  · rw [if_neg (by omega), if_pos q]
    by_cases ht : t ≤ x k
    · rw [if_pos ht]
      rcases h1 with w | w
      · omega
      · by_cases wi : i = 0
        · omega
        · have h4 := (h (i - 1) (by omega) t).mp (by omega)
          omega
    · rw [if_neg ht]
      by_cases hik : i < k
      · have h5 := h2 hik
        have h6 := h i hik t
        omega
      · omega
  · rw [if_neg (by omega), if_neg (by omega), h (j - 1) (by omega) t]
    have h5 := h2 (by omega)
    by_cases ht : t ≤ x k
    · rw [if_pos ht]; omega
    · rw [if_neg ht]
      have h6 := h i (by omega) t
      omega
theorem c_X8_sortLed {l : Launch} (hl : l.stackTraces = false) (M : Mem) (o : Ou) {n : Nat} {w Q s : Nat → Nat} (hn : n ≤ 8) (hf : M 11 35 = nI n) (hw : Nv (M 50) w n) (bw : ∀ j, j < n → w j < 60) (hQ : ∀ j, j < n → M 47 (w j) = nI (Q j)) (bQ : ∀ j, j < n → Q j < 10000000) (hs : Nv (M 52) s n) (bs : ∀ j, j < n → s j ≤ 2) : Ct l 8 0 152 [.ref 11] M o (fun v M' o' => v = none ∧ o' = o ∧ ∃ g X, M' = mrow M 54 g ∧ Nv g X n ∧ Sd X (fun j => Q j + s j) n ∧ ∀ j, j < n → X j < 20000000) nX := by
  refine ct_plain hl ok152 (by decide) (by decide) rfl rfl (by decide) (Nat.le_of_ble_eq_true rfl) (fun G hG => hG 0 _ _ _ _ _ ?_)
  have key : ∀ m k a b g X, k + m = n → Nv g X k → Sd X (fun j => Q j + s j) k → (∀ j, j < k → X j < 20000000) → G 3 [some (.ref 11), some (.int (nI k)), a, b] [] (mrow M 54 g) o 0 := by
    intro m
    induction m with
    | zero =>
      intro k a b g X hk hg hS hb
      have : k = n := by omega
      subst this
      refine hG 3 _ _ _ _ _ ?_
      refine ⟨fun _ => ?_, fun h => absurd (by rw [show mrow M 54 g 11 35 = nI k from hf]; exact nI_le (by omega) (by omega)) h⟩
      refine hG 52 _ _ _ _ _ ?_
      exact ⟨⟨rfl, rfl, g, X, rfl, hg, hS, hb⟩, Nat.le_refl _⟩
    | succ m ih =>
      intro k a b g X hk hg hS hb
      have hlt : k < n := by omega
      have bq := bQ k hlt
      have bsk := bs k hlt
      have bwk := bw k hlt
      have ek : (nI k).toNatClampNeg = k := nI_clamp (by omega)
      -- the shifting
      have k23 : ∀ i g', i ≤ k → (∀ j, j < i → g' j = nI (X j)) → (∀ j, i < j → j ≤ k → g' j = nI (X (j - 1))) → (i < k → X i < Q k + s k) → G 23 [some (.ref 11), some (.int (nI k)), some (.int (nI (Q k + s k))), some (.int (nI i))] [] (mrow M 54 g') o 0 := by
        intro i
        induction i with
        | zero =>
          intro g' _ h1 h2 h3
          refine hG 23 _ _ _ _ _ ?_
          refine ⟨fun _ => ?_, fun h => absurd (by decide) h⟩
          refine hG 45 _ _ _ _ _ ?_
          refine ⟨vp_in_nI (n := 0) (N := 8) (by decide) (by decide), ?_⟩
          have hnx := ih (k + 1) (some (.int (nI (Q k + s k)))) (some (.int (nI 0))) (upd g' 0 (nI (Q k + s k))) _ (by omega) (fun j hj => by
            show _ = nI (if j < 0 then X j else if j = 0 then Q k + s k else X (j - 1))
            by_cases q : j = 0
            · subst q; rw [pk_us, if_neg (by omega), if_pos rfl]
            · rw [pk_un q, if_neg (by omega), if_neg q]; exact h2 j (by omega) (by omega)) (hS.ins (i := 0) (by omega) (Or.inl rfl) h3) (fun j hj => by
            show (if j < 0 then X j else if j = 0 then Q k + s k else X (j - 1)) < _
            by_cases q : j = 0
            · rw [if_neg (by omega), if_pos q]; omega
            · rw [if_neg (by omega), if_neg q]; exact hb (j - 1) (by omega))
          rw [← nI_1] at hnx
          rw [nI_clamp (by omega), mset_mrow]
          exact hnx
        | succ i ihi =>
          intro g' hik h1 h2 h3
          have hbi := hb i (by omega)
          refine hG 23 _ _ _ _ _ ?_
          refine ⟨fun h => absurd h (nI_nle (by omega) (by omega)), fun _ => ?_⟩
          refine ⟨by rw [nI_pred]; exact vp_in_nI (show i < 8 by omega) (by decide), ?_⟩
          rw [nI_pred, show mrow M 54 g' 54 (nI i).toNatClampNeg = nI (X i) by rw [nI_clamp (by omega)]; exact h1 i (by omega)]
          refine ⟨fun h => ?_, fun h => ?_⟩
          · have h : Q k + s k ≤ X i := (nI_leI (by omega) (by omega)).mp h
            refine hG 45 _ _ _ _ _ ?_
            refine ⟨vp_in_nI (show i + 1 < 8 by omega) (by decide), ?_⟩
            have hnx := ih (k + 1) (some (.int (nI (Q k + s k)))) (some (.int (nI (i + 1)))) (upd g' (i + 1) (nI (Q k + s k))) _ (by omega) (fun j hj => by
              show _ = nI (if j < i + 1 then X j else if j = i + 1 then Q k + s k else X (j - 1))
              rcases Nat.lt_trichotomy j (i + 1) with q | q | q
              · rw [pk_un (by omega), if_pos q]; exact h1 j q
              · subst q; rw [pk_us, if_neg (by omega), if_pos rfl]
              · rw [pk_un (by omega), if_neg (by omega), if_neg (by omega)]; exact h2 j q (by omega)) (hS.ins (i := i + 1) hik (Or.inr h) h3) (fun j hj => by
              show (if j < i + 1 then X j else if j = i + 1 then Q k + s k else X (j - 1)) < _
              rcases Nat.lt_trichotomy j (i + 1) with q | q | q
              · rw [if_pos q]; exact hb j (by omega)
              · rw [if_neg (by omega), if_pos q]; omega
              · rw [if_neg (by omega), if_neg (by omega)]; exact hb (j - 1) (by omega))
            rw [← nI_1] at hnx
            rw [nI_clamp (by omega), mset_mrow]
            exact hnx
          · have h : X i < Q k + s k := Nat.not_le.mp (fun q => h (nI_le q (by omega)))
            refine ⟨by rw [nI_pred]; exact vp_in_nI (show i < 8 by omega) (by decide), vp_in_nI (show i + 1 < 8 by omega) (by decide), ?_⟩
            rw [nI_pred, show mrow M 54 g' 54 (nI i).toNatClampNeg = nI (X i) by rw [nI_clamp (by omega)]; exact h1 i (by omega), nI_clamp (by omega), mset_mrow]
            have hnx := ihi (upd g' (i + 1) (nI (X i))) (by omega) (fun j hj => by rw [pk_un (by omega)]; exact h1 j (by omega)) (fun j hj1 hj2 => by
              by_cases q : j = i + 1
              · subst q; rw [pk_us]; rfl
              · rw [pk_un q]; exact h2 j (by omega) hj2) (fun _ => h)
            rw [← pk_m1 i] at hnx
            exact hnx
      refine hG 3 _ _ _ _ _ ?_
      refine ⟨fun h => absurd (by rw [← show mrow M 54 g 11 35 = nI n from hf]; exact h) (nI_ge (a := k) (b := n) (by omega) (by omega)), fun _ => ⟨vp_in_nI (show k < 8 by omega) (by decide), ?_⟩⟩
      rw [ek, show mrow M 54 g 50 k = nI (w k) from hw k hlt]
      refine ⟨vp_in_nI bwk (by decide), ?_⟩
      rw [show mrow M 54 g 47 (nI (w k)).toNatClampNeg = nI (Q k) by rw [nI_clamp (by omega)]; exact hQ k hlt]
      refine ⟨vp_in_nI (show k < 8 by omega) (by decide), ?_⟩
      rw [ek, show mrow M 54 g 52 k = nI (s k) from hs k hlt]
      have := k23 k g (Nat.le_refl _) (fun j hj => hg j hj) (fun j h1 h2 => by omega) (fun h => by omega)
      rw [← nI_add] at this
      exact this
  have := key n 0 none none (M 54) (fun _ => 0) (by omega) (fun j hj => absurd hj (Nat.not_lt_zero _)) (fun j hj => absurd hj (Nat.not_lt_zero _)) (fun j hj => absurd hj (Nat.not_lt_zero _))
  rw [mrow_self] at this
  exact this
def cmF (X Y : Nat → Nat) : Nat → Nat → Int32
  | 0, _ => 0
  | m + 1, j => if X j = Y j then cmF X Y m (j + 1) else nI (X j) - nI (Y j)
theorem c_X8_compared {l : Launch} (hl : l.stackTraces = false) (M : Mem) (o : Ou) {n : Nat} {X Y : Nat → Nat} (hn : n ≤ 8) (hf : M 11 35 = nI n) (hX : Nv (M 54) X n) (hY : Nv (M 55) Y n) (bX : ∀ j, j < n → X j < 20000000) (bY : ∀ j, j < n → Y j < 20000000) : Ct l 8 0 153 [.ref 11] M o (rI (cmF X Y n 0) M o) nX := by
  refine ct_plain hl ok153 (by decide) (by decide) rfl rfl (by decide) (Nat.le_of_ble_eq_true rfl) (fun G hG => hG 0 _ _ _ _ _ ?_)
  have key : ∀ m j, j + m = n → cmF X Y n 0 = cmF X Y m j → G 3 [some (.ref 11), some (.int (nI j))] [] M o 0 := by
    intro m
    induction m with
    | zero =>
      intro j hj he
      refine hG 3 _ _ _ _ _ ?_
      refine ⟨fun _ => ?_, fun h => absurd (by rw [hf]; exact nI_le (by omega) (by omega)) h⟩
      refine hG 28 _ _ _ _ _ ?_
      rw [he]
      exact ⟨⟨rfl, rfl, rfl⟩, Nat.le_refl _⟩
    | succ m ih =>
      intro j hj he
      have hlt : j < n := by omega
      have i8 : vp_in (nI j) 8 := vp_in_nI (by omega) (by decide)
      have bx := bX j hlt
      have bY := bY j hlt
      refine hG 3 _ _ _ _ _ ?_
      refine ⟨fun h => absurd (by rw [← hf]; exact h) (nI_ge (a := j) (b := n) (by omega) (by omega)), fun _ => ⟨i8, i8, ?_⟩⟩
      rw [nI_clamp (by omega), hX j hlt, hY j hlt]
      refine ⟨fun h => ?_, fun h => ⟨i8, i8, ?_⟩⟩
      · refine hG 26 _ _ _ _ _ ?_
        have h : X j = Y j := nI_inj (by omega) (by omega) h
        have hnx := ih (j + 1) (by omega) (by rw [he]; exact if_pos h)
        rw [← nI_1] at hnx
        exact hnx
      · have h : ¬ X j = Y j := fun q => h (by rw [q])
        rw [nI_clamp (by omega), hX j hlt, hY j hlt]
        exact ⟨⟨by rw [he]; show _ = some (Value.int (if _ then _ else _)); rw [if_neg h], rfl, rfl⟩, Nat.le_refl _⟩
  exact key n 0 (by omega) rfl
theorem sub_neg {a b : Nat} (ha : a < 20000000) (hb : b < 20000000) : (nI a - nI b < 0 ↔ a < b) ∧ (nI a - nI b ≤ 0 ↔ a ≤ b) := by
  have h1 : (nI a - nI b).toInt = (a : Int) - b := pk_sub_toInt (by omega) (by omega)
  have h0 : (0 : Int32).toInt = 0 := by decide
  rw [Int32.lt_iff_toInt_lt, Int32.le_iff_toInt_le, h1, h0]
  constructor <;> omega
theorem cnG_eq_of {x y X Y : Nat → Nat} {n t k : Nat} (hX : Sd X x n) (hY : Sd Y y n) (hk : k ≤ n) (he : ∀ j, j < k → X j = Y j) (hx : cnG x t n ≤ k) (hy : cnG y t n ≤ k) : cnG x t n = cnG y t n := by
  rcases Nat.lt_trichotomy (cnG x t n) (cnG y t n) with q | q | q
  · have h1 := hX (cnG x t n) (by omega) t
    have h2 := hY (cnG x t n) (by omega) t
    rw [he _ (by omega)] at h1
    omega
  · exact q
  · have h1 := hX (cnG y t n) (by omega) t
    have h2 := hY (cnG y t n) (by omega) t
    rw [he _ (by omega)] at h1
    omega
theorem LxC_of {x y X Y : Nat → Nat} {n k : Nat} (hX : Sd X x n) (hY : Sd Y y n) (hk : k < n) (he : ∀ j, j < k → X j = Y j) (hlt : X k < Y k) : LxC n x y := by
  refine ⟨Y k, ?_, fun t' ht => ?_⟩
  · have h1 := hX k hk (Y k)
    have h2 := hY k hk (Y k)
    omega
  · refine cnG_eq_of hX hY (k := k) (by omega) he ?_ ?_
    · have := hX k hk t'; omega
    · have := hY k hk t'; omega
theorem cmF_sign {x y X Y : Nat → Nat} {n : Nat} (hX : Sd X x n) (hY : Sd Y y n) (bX : ∀ j, j < n → X j < 20000000) (bY : ∀ j, j < n → Y j < 20000000) : ∀ m j, j + m = n → (∀ q, q < j → X q = Y q) → (cmF X Y m j < 0 ∧ LxC n x y) ∨ (cmF X Y m j = 0 ∧ EqC n x y) ∨ (¬ cmF X Y m j ≤ 0 ∧ LxC n y x) := by
  intro m
  induction m with
  | zero =>
    intro j hj he
    have : j = n := by omega
    subst this
    exact Or.inr (Or.inl ⟨rfl, fun t => cnG_eq_of hX hY (Nat.le_refl _) he (cnG_le _ _ _) (cnG_le _ _ _)⟩)
  | succ m ih =>
    intro j hj he
    have hlt : j < n := by omega
    unfold cmF
    by_cases h : X j = Y j
    · rw [if_pos h]
      refine ih (j + 1) (by omega) (fun q hq => ?_)
      by_cases w : q = j
      · subst w; exact h
      · exact he q (by omega)
    · rw [if_neg h]
      obtain ⟨s1, s2⟩ := sub_neg (bX j hlt) (bY j hlt)
      rcases Nat.lt_or_ge (X j) (Y j) with w | w
      · exact Or.inl ⟨s1.mpr w, LxC_of hX hY hlt he w⟩
      · exact Or.inr (Or.inr ⟨fun q => by have := s2.mp q; omega, LxC_of hY hX hlt (fun q hq => (he q hq).symm) (by omega)⟩)
