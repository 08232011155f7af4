/-! MOUNTS: the shares that the reference keeps. -/
theorem c_X8_keepsShare {l : Launch} (hl : l.stackTraces = false) (M : Mem) (o : Ou) {n k : Nat} {s : Nat → Nat} (hn : n ≤ 8) (hk : k < 6561) (hf : M 11 35 = nI n) (hs : Nv (M 52) s n) (hm : M 11 38 = nI k) : Ct l 8 0 154 [.ref 11] M o (fun v M' o' => v = none ∧ o' = o ∧ ∃ g, M' = mset (mrow M 53 g) 11 38 (nI (k + 1)) ∧ (∀ j, j < n → g (8 * k + j) = nI (s j)) ∧ ∀ q, q < 8 * k → g q = M 53 q) nX := by
  refine ct_plain hl ok154 (by decide) (by decide) rfl rfl (by decide) (Nat.le_of_ble_eq_true rfl) (fun G hG => hG 0 _ _ _ _ _ ?_)
  have key : ∀ m j g, j + m = n → (∀ q, q < j → g (8 * k + q) = nI (s q)) → (∀ q, q < 8 * k → g q = M 53 q) → G 3 [some (.ref 11), some (.int (nI j))] [] (mrow M 53 g) o 0 := by
    intro m
    induction m with
    | zero =>
      intro j g hj h1 h2
      have : j = n := by omega
      subst this
      refine hG 3 _ _ _ _ _ ?_
      refine ⟨fun _ => ?_, fun h => absurd (by rw [show mrow M 53 g 11 35 = nI j from hf]; exact nI_le (by omega) (by omega)) h⟩
      refine hG 22 _ _ _ _ _ ?_
      refine ⟨⟨rfl, rfl, g, ?_, h1, h2⟩, Nat.le_refl _⟩
      rw [show mrow M 53 g 11 38 = nI k from hm, nI_1]
    | succ m ih =>
      intro j g hj h1 h2
      have hlt : j < n := by omega
      have e8 : (8 : Int32) * nI k + nI j = nI (8 * k + j) := by rw [i8, pk_mul, nI_add]
      have hg53 : mrow M 53 g 11 38 = nI k := hm
      refine hG 3 _ _ _ _ _ ?_
      refine ⟨fun h => absurd (by rw [← show mrow M 53 g 11 35 = nI n from hf]; exact h) (nI_ge (a := j) (b := n) (by omega) (by omega)), fun _ => ⟨vp_in_nI (show j < 8 by omega) (by decide), by rw [hg53, e8]; exact vp_in_nI (show 8 * k + j < 52488 by omega) (by decide), ?_⟩⟩
      rw [hg53, e8, nI_clamp (show 8 * k + j < 2 ^ 31 by omega), nI_clamp (show j < 2 ^ 31 by omega), show mrow M 53 g 52 j = nI (s j) from hs j hlt, mset_mrow]
      have hnx := ih (j + 1) (upd g (8 * k + j) (nI (s j))) (by omega) (fun q hq => by
        by_cases w : q = j
        · subst w; rw [pk_us]
        · rw [pk_un (by omega)]; exact h1 q (by omega)) (fun q hq => by rw [pk_un (by omega)]; exact h2 q hq)
      rw [← nI_1] at hnx
      exact hnx
  have := key n 0 (M 53) (by omega) (fun q h => absurd h (Nat.not_lt_zero _)) (fun q _ => rfl)
  rw [mrow_self] at this
  exact this
theorem c_X8_mayGoOn {l : Launch} (hl : l.stackTraces = false) (M : Mem) (o : Ou) {n k : Nat} {u : Nat → Nat} {L : Nat → Nat → Nat} {b : Bool} (hn : n ≤ 8) (hk : k ≤ 6561) (hf : M 11 35 = nI n) (hm : M 11 38 = nI k) (hu : Nv (M 57) u n) (bu : ∀ j, j < n → u j < 100) (hL : ∀ i, i < k → ∀ j, j < n → M 53 (8 * i + j) = nI (L i j) ∧ L i j < 100) (hb : b = true ↔ ∃ i, i < k ∧ ∀ j, j < n → u j ≤ L i j) : Ct l 8 0 156 [.ref 11] M o (rI (cond b 1 0) M o) nX := by
  refine ct_plain hl ok156 (by decide) (by decide) rfl rfl (by decide) (Nat.le_of_ble_eq_true rfl) (fun G hG => hG 0 _ _ _ _ _ ?_)
  have key : ∀ m i x y, i + m = k → (∀ q, q < i → ¬ ∀ j, j < n → u j ≤ L q j) → G 3 [some (.ref 11), some (.int (nI i)), x, y] [] M o 0 := by
    intro m
    induction m with
    | zero =>
      intro i x y hi hno
      refine hG 3 _ _ _ _ _ ?_
      refine ⟨fun _ => ?_, fun h => absurd (by rw [hm]; exact nI_le (by omega) (by omega)) h⟩
      refine hG 43 _ _ _ _ _ ?_
      have : b = false := by
        rw [Bool.eq_false_iff]
        intro w
        obtain ⟨q, h1, h2⟩ := hb.mp w
        exact hno q (by omega) h2
      rw [this]
      exact ⟨bz0, ⟨rfl, rfl, rfl⟩, Nat.le_refl _⟩
    | succ m ih =>
      intro i x y hi hno
      have hlt : i < k := by omega
      -- it fits, or not
      have k37t : ∀ y, (∀ j, j < n → u j ≤ L i j) → G 37 [some (.ref 11), some (.int (nI i)), some (.int 1), y] [] M o 0 := by
        intro y h
        refine hG 37 _ _ _ _ _ ?_
        refine ⟨fun q => absurd q (by decide), fun _ => ?_⟩
        rw [hb.mpr ⟨i, hlt, h⟩]
        exact ⟨bz1, ⟨rfl, rfl, rfl⟩, Nat.le_refl _⟩
      have k37f : ∀ y, (¬ ∀ j, j < n → u j ≤ L i j) → G 37 [some (.ref 11), some (.int (nI i)), some (.int 0), y] [] M o 0 := by
        intro y h
        refine hG 37 _ _ _ _ _ ?_
        refine ⟨fun _ => ?_, fun q => absurd rfl q⟩
        refine hG 41 _ _ _ _ _ ?_
        have hnx := ih (i + 1) (some (.int 0)) y (by omega) (fun q hq => by
          by_cases w : q = i
          · subst w; exact h
          · exact hno q (by omega))
        rw [← nI_1] at hnx
        exact hnx
      have k12f : ∀ j, j ≤ n → (¬ ∀ j, j < n → u j ≤ L i j) → G 12 [some (.ref 11), some (.int (nI i)), some (.int 0), some (.int (nI j))] [] M o 0 := by
        intro j hj h
        refine hG 12 _ _ _ _ _ ?_
        refine ⟨fun _ => k37f _ h, fun _ => ⟨fun _ => k37f _ h, fun q => absurd rfl q⟩⟩
      have k12 : ∀ q j, j + q = n → (∀ p, p < j → u p ≤ L i p) → G 12 [some (.ref 11), some (.int (nI i)), some (.int 1), some (.int (nI j))] [] M o 0 := by
        intro q
        induction q with
        | zero =>
          intro j hj h
          refine hG 12 _ _ _ _ _ ?_
          refine ⟨fun _ => k37t _ (fun p hp => h p (by omega)), fun h => absurd (by rw [hf]; exact nI_le (by omega) (by omega)) h⟩
        | succ q ihq =>
          intro j hj h
          have hjn : j < n := by omega
          have e8 : (8 : Int32) * nI i + nI j = nI (8 * i + j) := by rw [i8, pk_mul, nI_add]
          obtain ⟨hv, bl⟩ := hL i hlt j hjn
          have bu := bu j hjn
          refine hG 12 _ _ _ _ _ ?_
          refine ⟨fun h => absurd (by rw [← hf]; exact h) (nI_ge (a := j) (b := n) (by omega) (by omega)), fun _ => ⟨fun w => absurd w (by decide), fun _ => ⟨vp_in_nI (show j < 8 by omega) (by decide), by rw [e8]; exact vp_in_nI (show 8 * i + j < 52488 by omega) (by decide), ?_⟩⟩⟩
          rw [e8, nI_clamp (show j < 2 ^ 31 by omega), nI_clamp (show 8 * i + j < 2 ^ 31 by omega), hu j hjn, hv]
          refine ⟨fun w => ?_, fun w => ?_⟩
          · refine hG 33 _ _ _ _ _ ?_
            have w : L i j < u j := (nI_ltI (by omega) (by omega)).mp w
            have hnx := k12f (j + 1) (by omega) (fun z => by have := z j hjn; omega)
            rw [← nI_1] at hnx
            exact hnx
          · refine hG 34 _ _ _ _ _ ?_
            have w : ¬ L i j < u j := fun z => w (nI_lt z (by omega))
            have hnx := ihq (j + 1) (by omega) (fun p hp => by
              by_cases z : p = j
              · subst z; omega
              · exact h p (by omega))
            rw [← nI_1] at hnx
            exact hnx
      refine hG 3 _ _ _ _ _ ?_
      refine ⟨fun h => absurd (by rw [← hm]; exact h) (nI_ge (a := i) (b := k) (by omega) (by omega)), fun _ => ?_⟩
      exact k12 n 0 (by omega) (fun p hp => absurd hp (Nat.not_lt_zero _))
  exact key k 0 none none (by omega) (fun q h => absurd h (Nat.not_lt_zero _))
/-! what is kept -/
def wi (n : Nat) (cap v : Nat → Nat) : Prop := ∀ j, j < n → v j ≤ cap j
def adm (n N : Nat) (v : Nat → Nat) : Prop := sumN v n ≤ N ∧ ∀ j, j < n → 2 < N ∨ v j < 2
def addf (Q v : Nat → Nat) : Nat → Nat := fun k => Q k + v k
def Lev (n : Nat) (Q b v : Nat → Nat) : Prop := sumN v n < sumN b n ∨ (sumN v n = sumN b n ∧ (LxC n (addf Q b) (addf Q v) ∨ EqC n (addf Q b) (addf Q v)))
def Eqv (n : Nat) (Q b v : Nat → Nat) : Prop := sumN v n = sumN b n ∧ EqC n (addf Q b) (addf Q v)
def KI (n : Nat) (Q : Nat → Nat) (N : Nat) (P : (Nat → Nat) → Prop) (fl : Int32) (k : Nat) (Y : Nat → Nat) (L : Nat → Nat → Nat) : Prop := (fl = -1 ∧ k = 0 ∧ ∀ v, P v → ¬ adm n N v) ∨ (∃ b, P b ∧ adm n N b ∧ fl = nI (sumN b n) ∧ Sd Y (addf Q b) n ∧ (∀ v, P v → adm n N v → Lev n Q b v) ∧ (∀ i, i < k → P (L i) ∧ adm n N (L i) ∧ Eqv n Q b (L i)) ∧ ∀ v, P v → adm n N v → Eqv n Q b v → ∃ i, i < k ∧ ∀ j, j < n → L i j = v j)
def ext (n : Nat) (s v : Nat → Nat) : Prop := ∀ j, j < n → v j = s j
theorem ext_sum {n : Nat} {s v : Nat → Nat} (h : ext n s v) : sumN v n = sumN s n := sumN_congr h
theorem ext_adm {n N : Nat} {s v : Nat → Nat} (h : ext n s v) (ha : adm n N v) : adm n N s := ⟨by rw [← ext_sum h]; exact ha.1, fun j hj => by rw [← h j hj]; exact ha.2 j hj⟩
theorem ext_cn {n : Nat} {s v Q : Nat → Nat} (h : ext n s v) : EqC n (addf Q s) (addf Q v) := by
  intro t
  refine cnB_congr (fun k hk => ?_)
  show decide (t ≤ Q k + s k) = decide (t ≤ Q k + v k)
  rw [h k hk]
theorem EqC.symm {n : Nat} {x y : Nat → Nat} (h : EqC n x y) : EqC n y x := fun t => (h t).symm
theorem EqC.trans {n : Nat} {x y z : Nat → Nat} (h : EqC n x y) (h2 : EqC n y z) : EqC n x z := fun t => (h t).trans (h2 t)
theorem Lev.trans {n : Nat} {Q a b c : Nat → Nat} (h1 : Lev n Q a b) (h2 : Lev n Q b c) : Lev n Q a c := by
  rcases h1 with h1 | ⟨e1, h1⟩
  · rcases h2 with h2 | ⟨e2, _⟩
    · exact Or.inl (by omega)
    · exact Or.inl (by omega)
  · rcases h2 with h2 | ⟨e2, h2⟩
    · exact Or.inl (by omega)
    · refine Or.inr ⟨by omega, ?_⟩
      rcases h1 with h1 | h1
      · rcases h2 with h2 | h2
        · exact Or.inl (h1.trans h2)
        · exact Or.inl (h1.eq_r h2)
      · rcases h2 with h2 | h2
        · exact Or.inl (LxC.eq_l h1 h2)
        · exact Or.inr (h1.trans h2)
/-- a vector that is not better is passed over -/
theorem KI.skip {n N k : Nat} {Q Y s : Nat → Nat} {L : Nat → Nat → Nat} {P : (Nat → Nat) → Prop} {fl : Int32} (h : KI n Q N P fl k Y L) (hs : ¬ adm n N s ∨ ∃ b, adm n N b ∧ fl = nI (sumN b n) ∧ P b ∧ Sd Y (addf Q b) n ∧ Lev n Q b s ∧ ¬ Eqv n Q b s) (hfl : ∀ b, fl = nI (sumN b n) → adm n N b → sumN b n < 2 ^ 31 ∧ ¬ fl = -1) : KI n Q N (fun v => P v ∨ ext n s v) fl k Y L := by
  rcases h with ⟨h1, h2, h3⟩ | ⟨b, b1, b2, b3, b4, b5, b6, b7⟩
  · rcases hs with hs | ⟨b, c1, c2, _⟩
    · exact Or.inl ⟨h1, h2, fun v hv ha => hv.elim (fun w => h3 v w ha) (fun w => hs (ext_adm w ha))⟩
    · exact absurd h1 (hfl b c2 c1).2
  · refine Or.inr ⟨b, Or.inl b1, b2, b3, b4, fun v hv ha => ?_, fun i hi => ⟨Or.inl (b6 i hi).1, (b6 i hi).2⟩, fun v hv ha he => ?_⟩
    · rcases hv with hv | hv
      · exact b5 v hv ha
      · rcases hs with hs | ⟨c, c1, c2, c3, c4, c5, c6⟩
        · exact absurd (ext_adm hv ha) hs
        · have hbc := b5 c c3 c1
          have hsv : Lev n Q s v := Or.inr ⟨ext_sum hv, Or.inr (ext_cn hv)⟩
          exact (hbc.trans c5).trans hsv
    · rcases hv with hv | hv
      · exact b7 v hv ha he
      · rcases hs with hs | ⟨c, c1, c2, c3, c4, c5, c6⟩
        · exact absurd (ext_adm hv ha) hs
        · exfalso
          -- b and c are alike
          have e1 : sumN b n = sumN c n := nI_inj (hfl b b3 b2).1 (hfl c c2 c1).1 (by rw [← b3, ← c2])
          have hbs : Eqv n Q b s := ⟨by rw [← ext_sum hv]; exact he.1, he.2.trans (ext_cn hv).symm⟩
          have hbc : EqC n (addf Q b) (addf Q c) := by
            intro t
            exact cnG_eq_of b4 c4 (Nat.le_refl n) (fun _ _ => rfl) (cnG_le _ _ _) (cnG_le _ _ _)
          exact c6 ⟨by rw [hbs.1, e1], hbc.symm.trans hbs.2⟩
/-- a better one begins the row anew -/
theorem KI.anew {n N k : Nat} {Q Y X s : Nat → Nat} {L L' : Nat → Nat → Nat} {P : (Nat → Nat) → Prop} {fl : Int32} (h : KI n Q N P fl k Y L) (ha : adm n N s) (hX : Sd X (addf Q s) n) (hb : ∀ b, fl = nI (sumN b n) → adm n N b → Sd Y (addf Q b) n → P b → sumN b n < sumN s n ∨ (sumN b n = sumN s n ∧ LxC n (addf Q s) (addf Q b))) (hL : ext n s (L' 0)) : KI n Q N (fun v => P v ∨ ext n s v) (nI (sumN s n)) 1 X L' := by
  have hself : ∀ v, ext n s v → Lev n Q s v := fun v hv => Or.inr ⟨ext_sum hv, Or.inr (ext_cn hv)⟩
  have hlt : ∀ v, P v → adm n N v → Lev n Q s v ∧ ¬ Eqv n Q s v := by
    intro v hv hva
    rcases h with ⟨h1, h2, h3⟩ | ⟨b, b1, b2, b3, b4, b5, b6, b7⟩
    · exact absurd hva (h3 v hv)
    · have h5 := b5 v hv hva
      rcases hb b b3 b2 b4 b1 with w | ⟨w1, w2⟩
      · have : sumN v n < sumN s n := by
          rcases h5 with q | ⟨q, _⟩ <;> omega
        exact ⟨Or.inl this, fun z => by have := z.1; omega⟩
      · have hsb : Lev n Q s b := Or.inr ⟨w1, Or.inl w2⟩
        refine ⟨hsb.trans h5, fun z => ?_⟩
        rcases h5 with q | ⟨q, q2⟩
        · have := z.1; omega
        · rcases q2 with q2 | q2
          · exact (w2.trans q2).ne z.2
          · exact (w2.eq_r q2).ne z.2
  refine Or.inr ⟨s, Or.inr (fun _ _ => rfl), ha, rfl, hX, fun v hv hva => hv.elim (fun w => (hlt v w hva).1) (hself v), fun i hi => ?_, fun v hv hva he => ?_⟩
  · rw [show i = 0 by omega]
    exact ⟨Or.inr hL, ⟨by rw [ext_sum hL]; exact ha.1, fun j hj => by rw [hL j hj]; exact ha.2 j hj⟩, ext_sum hL, ext_cn hL⟩
  · rcases hv with hv | hv
    · exact absurd he (hlt v hv hva).2
    · exact ⟨0, by omega, fun j hj => by rw [hL j hj, hv j hj]⟩
/-- one that is as good is added -/
theorem KI.add {n N k : Nat} {Q Y s : Nat → Nat} {L L' : Nat → Nat → Nat} {P : (Nat → Nat) → Prop} {fl : Int32} (h : KI n Q N P fl k Y L) (hne : ¬ fl = -1) (ha : adm n N s) (hb : ∀ b, fl = nI (sumN b n) → adm n N b → Sd Y (addf Q b) n → P b → Eqv n Q b s) (hL : ∀ i, i < k → ∀ j, j < n → L' i j = L i j) (hP : ∀ v w, ext n w v → P w → P v) (hk : ext n s (L' k)) : KI n Q N (fun v => P v ∨ ext n s v) fl (k + 1) Y L' := by
  rcases h with ⟨h1, h2, h3⟩ | ⟨b, b1, b2, b3, b4, b5, b6, b7⟩
  · exact absurd h1 hne
  have he := hb b b3 b2 b4 b1
  refine Or.inr ⟨b, Or.inl b1, b2, b3, b4, fun v hv hva => ?_, fun i hi => ?_, fun v hv hva hev => ?_⟩
  · rcases hv with hv | hv
    · exact b5 v hv hva
    · exact Or.inr ⟨by rw [ext_sum hv]; exact he.1, Or.inr (he.2.trans (ext_cn hv))⟩
  · by_cases w : i < k
    · obtain ⟨c1, c2, c3⟩ := b6 i w
      have hx : ext n (L i) (L' i) := fun j hj => hL i w j hj
      refine ⟨Or.inl (hP _ _ hx c1), ⟨by rw [ext_sum hx]; exact c2.1, fun j hj => by rw [hx j hj]; exact c2.2 j hj⟩, ?_, ?_⟩
      · rw [ext_sum hx]; exact c3.1
      · exact c3.2.trans (ext_cn hx)
    · rw [show i = k by omega]
      refine ⟨Or.inr hk, ⟨by rw [ext_sum hk]; exact ha.1, fun j hj => by rw [hk j hj]; exact ha.2 j hj⟩, ?_, ?_⟩
      · rw [ext_sum hk]; exact he.1
      · exact he.2.trans (ext_cn hk)
  · rcases hv with hv | hv
    · obtain ⟨i, hi, hh⟩ := b7 v hv hva hev
      exact ⟨i, by omega, fun j hj => by rw [hL i hi j hj]; exact hh j hj⟩
    · exact ⟨k, by omega, fun j hj => by rw [hk j hj, hv j hj]⟩
