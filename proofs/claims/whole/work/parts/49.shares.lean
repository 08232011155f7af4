/-! CONTRACTS: the reference tries all shares. -/
def odo (n : Nat) (v s : Nat → Nat) : Prop := ∃ k, k < n ∧ v k < s k ∧ ∀ j, k < j → j < n → v j = s j
theorem odo_top (v s : Nat → Nat) : ∀ n, ext n s v ∨ ∃ k, k < n ∧ v k ≠ s k ∧ ∀ j, k < j → j < n → v j = s j := by
  intro n
  induction n with
  | zero => exact Or.inl (fun j hj => absurd hj (Nat.not_lt_zero _))
  | succ n ih =>
    by_cases h : v n = s n
    · rcases ih with w | ⟨k, hk, h1, h2⟩
      · refine Or.inl (fun j hj => ?_)
        by_cases q : j = n
        · subst q; exact h
        · exact w j (by omega)
      · refine Or.inr ⟨k, by omega, h1, fun j hj1 hj2 => ?_⟩
        by_cases q : j = n
        · subst q; exact h
        · exact h2 j hj1 (by omega)
    · exact Or.inr ⟨n, by omega, h, fun j h1 h2 => by omega⟩
def nxV (s : Nat → Nat) (p : Nat) : Nat → Nat := fun j => if j < p then 0 else if j = p then s p + 1 else s j
theorem odo_next {n p : Nat} {cap s v : Nat → Nat} (hp : p < n) (hlow : ∀ j, j < p → s j = cap j) (hv : wi n cap v) : odo n v (nxV s p) ↔ odo n v s ∨ ext n s v := by
  constructor
  · rintro ⟨k, hk, h1, h2⟩
    rcases Nat.lt_trichotomy k p with q | q | q
    · unfold nxV at h1; rw [if_pos q] at h1; omega
    · subst q
      have hv1 : v k ≤ s k := by unfold nxV at h1; rw [if_neg (by omega), if_pos rfl] at h1; omega
      have hab : ∀ j, k < j → j < n → v j = s j := fun j a b => by have := h2 j a b; unfold nxV at this; rw [if_neg (by omega), if_neg (by omega)] at this; exact this
      rcases odo_top v s n with w | ⟨i, hi, w1, w2⟩
      · exact Or.inr w
      · refine Or.inl ⟨i, hi, ?_, w2⟩
        rcases Nat.lt_trichotomy i k with z | z | z
        · have a := hv i hi
          have b := hlow i z
          omega
        · subst z; omega
        · exact absurd (hab i z hi) w1
    · refine Or.inl ⟨k, hk, ?_, fun j a b => ?_⟩
      · unfold nxV at h1; rw [if_neg (by omega), if_neg (by omega)] at h1; exact h1
      · have := h2 j a b; unfold nxV at this; rw [if_neg (by omega), if_neg (by omega)] at this; exact this
  · have fin : ∀ k, p ≤ k → k < n → v k < nxV s p k → (∀ j, k < j → j < n → v j = s j) → odo n v (nxV s p) := by
      intro k hpk hk h1 h2
      refine ⟨k, hk, h1, fun j a b => ?_⟩
      unfold nxV; rw [if_neg (by omega), if_neg (by omega)]; exact h2 j a b
    have hnp : nxV s p p = s p + 1 := by unfold nxV; rw [if_neg (by omega), if_pos rfl]
    rintro (⟨k, hk, h1, h2⟩ | h)
    · rcases Nat.lt_trichotomy k p with q | q | q
      · exact fin p (Nat.le_refl _) hp (by rw [hnp, h2 p q hp]; omega) (fun j a b => h2 j (by omega) b)
      · subst q; exact fin k (Nat.le_refl _) hk (by rw [hnp]; omega) h2
      · refine fin k (by omega) hk ?_ h2
        unfold nxV; rw [if_neg (by omega), if_neg (by omega)]; exact h1
    · exact fin p (Nat.le_refl _) hp (by rw [hnp, h p hp]; omega) (fun j _ b => h j b)
theorem odo_end {n : Nat} {cap s v : Nat → Nat} (hs : ∀ j, j < n → s j = cap j) (hv : wi n cap v) : odo n v s ∨ ext n s v := by
  rcases odo_top v s n with w | ⟨k, hk, h1, h2⟩
  · exact Or.inr w
  · have a := hv k hk
    have b := hs k hk
    exact Or.inl ⟨k, hk, by omega, h2⟩
def cdN (s : Nat → Nat) : Nat → Nat
  | 0 => 0
  | j + 1 => cdN s j + s j * 3 ^ j
theorem cdN_lt {s : Nat → Nat} : ∀ {n}, (∀ j, j < n → s j ≤ 2) → cdN s n < 3 ^ n := by
  intro n
  induction n with
  | zero => intro _; show 0 < 1; decide
  | succ n ih =>
    intro h
    have h1 := ih (fun j hj => h j (by omega))
    have h2 := h n (by omega)
    have h3 : s n * 3 ^ n ≤ 2 * 3 ^ n := Nat.mul_le_mul_right _ h2
    show cdN s n + s n * 3 ^ n < 3 ^ n * 3
    omega
theorem cdN_next {n p : Nat} {s : Nat → Nat} (hp : p < n) (hs : ∀ j, j < n → s j ≤ 2) : cdN s n + 1 ≤ cdN (nxV s p) n := by
  have h0 : ∀ m, m ≤ p → cdN (nxV s p) m = 0 := by
    intro m
    induction m with
    | zero => intro _; rfl
    | succ m ih =>
      intro hm
      show cdN (nxV s p) m + nxV s p m * 3 ^ m = 0
      rw [ih (by omega), show nxV s p m = 0 by unfold nxV; rw [if_pos (by omega)]]
      omega
  have h1 : ∀ m, p + 1 ≤ m → cdN s m + 1 ≤ cdN (nxV s p) m := by
    intro m
    induction m with
    | zero => intro h; omega
    | succ m ih =>
      intro hm
      show cdN s m + s m * 3 ^ m + 1 ≤ cdN (nxV s p) m + nxV s p m * 3 ^ m
      by_cases q : m = p
      · subst q
        rw [h0 m (Nat.le_refl _), show nxV s m m = s m + 1 by unfold nxV; rw [if_neg (by omega), if_pos rfl], Nat.add_mul, Nat.one_mul]
        have := cdN_lt (s := s) (n := m) (fun j hj => hs j (by omega))
        omega
      · have := ih (by omega)
        rw [show nxV s p m = s m by unfold nxV; rw [if_neg (by omega), if_neg q]]
        omega
  exact h1 n hp
theorem cdN_8 {n : Nat} {s : Nat → Nat} (hn : n ≤ 8) (hs : ∀ j, j < n → s j ≤ 2) : cdN s n < 6561 := by
  have h1 := cdN_lt hs
  have h2 : 3 ^ n ≤ 3 ^ 8 := Nat.pow_le_pow_right (by decide) hn
  have h3 : 3 ^ 8 = 6561 := by decide
  omega
/-- only the search's own places are touched -/
def SF (M Mx : Mem) : Prop := (∀ a, a ≠ 11 → a ≠ 52 → a ≠ 53 → a ≠ 54 → a ≠ 55 → Mx a = M a) ∧ ∀ q, q ≠ 38 → q ≠ 41 → Mx 11 q = M 11 q
theorem SF.row {M Mx : Mem} (h : SF M Mx) {a : Nat} (ha : a = 52 ∨ a = 53 ∨ a = 54 ∨ a = 55) (f : Nat → Int32) : SF M (mrow Mx a f) := by
  refine ⟨fun b b1 b2 b3 b4 b5 => ?_, fun q q1 q2 => ?_⟩
  · rw [mrow_ne f (by rcases ha with rfl | rfl | rfl | rfl <;> assumption)]
    exact h.1 b b1 b2 b3 b4 b5
  · rw [mrow_ne f (by rcases ha with rfl | rfl | rfl | rfl <;> decide)]
    exact h.2 q q1 q2
theorem SF.fld {M Mx : Mem} (h : SF M Mx) {q : Nat} (hq : q = 38 ∨ q = 41) (x : Int32) : SF M (mset Mx 11 q x) := by
  refine ⟨fun b b1 b2 b3 b4 b5 => ?_, fun p p1 p2 => ?_⟩
  · rw [show mset Mx 11 q x b = Mx b by simp [mset, b1]]
    exact h.1 b b1 b2 b3 b4 b5
  · rw [show mset Mx 11 q x 11 p = upd (Mx 11) q x p from rfl, pk_un (by rcases hq with rfl | rfl <;> assumption)]
    exact h.2 p p1 p2
/-- the search's state: rows, and what is kept -/
def SI (M Mx : Mem) (n N : Nat) (Q s : Nat → Nat) (K : Nat) (P : (Nat → Nat) → Prop) : Prop := SF M Mx ∧ Nv (Mx 52) s n ∧ ∃ (k : Nat) (Y : Nat → Nat) (L : Nat → Nat → Nat), Mx 11 38 = nI k ∧ k ≤ K ∧ (∀ i, i < k → ∀ j, j < n → Mx 53 (8 * i + j) = nI (L i j)) ∧ (Mx 11 41 = -1 ∨ (Nv (Mx 55) Y n ∧ ∀ j, j < n → Y j < 20000000)) ∧ KI n Q N P (Mx 11 41) k Y L
def shE (M M' : Mem) (n N : Nat) (Q cap : Nat → Nat) : Prop := SF M M' ∧ ∃ (k : Nat) (L : Nat → Nat → Nat) (b : Nat → Nat), k ≤ 6561 ∧ M' 11 38 = nI k ∧ (∀ i, i < k → ∀ j, j < n → M' 53 (8 * i + j) = nI (L i j)) ∧ wi n cap b ∧ adm n N b ∧ M' 11 41 = nI (sumN b n) ∧ (∀ v, wi n cap v → adm n N v → Lev n Q b v) ∧ (∀ i, i < k → wi n cap (L i) ∧ adm n N (L i) ∧ Eqv n Q b (L i)) ∧ ∀ v, wi n cap v → adm n N v → Eqv n Q b v → ∃ i, i < k ∧ ∀ j, j < n → L i j = v j
theorem c_X8_sharesOf {l : Launch} (hl : l.stackTraces = false) (M : Mem) (o : Ou) {n N : Nat} {w Q cap : Nat → Nat} (hn : n ≤ 8) (hN : N ≤ 6) (hf : M 11 35 = nI n) (hw : Nv (M 50) w n) (bw : ∀ j, j < n → w j < 60) (hQ : ∀ j, j < n → M 47 (w j) = nI (Q j)) (bQ : ∀ j, j < n → Q j < 10000000) (hc : Nv (M 51) cap n) (bc : ∀ j, j < n → cap j ≤ 2) : Ct l 9 0 155 [.ref 11, .int (nI N)] M o (fun v M' o' => v = none ∧ o' = o ∧ shE M M' n N Q cap) nX := by
  have sz : ∀ v : Nat → Nat, adm n N v → sumN v n ≤ 6 := fun v hv => Nat.le_trans hv.1 hN
  have hfl : ∀ (fl : Int32) b, fl = nI (sumN b n) → adm n N b → sumN b n < 2 ^ 31 ∧ ¬ fl = -1 := fun fl b h1 h2 => by
    have := sz b h2
    exact ⟨by omega, by rw [h1]; exact im1 _ (by omega)⟩
  refine ct_plain hl ok155 (by decide) (by decide) rfl rfl (by decide) (Nat.le_of_ble_eq_true rfl) (fun G hG => hG 0 _ _ _ _ _ ?_)
  have key : ∀ m s Mx x3 x4 x5 x6, 6561 ≤ m + cdN s n → wi n cap s → SI M Mx n N Q s (cdN s n) (fun v => wi n cap v ∧ odo n v s) → G 23 [some (.ref 11), some (.int (nI N)), some (.int 1), x3, x4, x5, x6] [] Mx o 0 := by
    intro m
    induction m with
    | zero =>
      intro s Mx x3 x4 x5 x6 hm hs hI
      have := cdN_8 hn (fun j hj => Nat.le_trans (hs j hj) (bc j hj))
      omega
    | succ m ih =>
      intro s Mx x3 x4 x5 x6 hm hs hI
      have bs : ∀ j, j < n → s j ≤ 2 := fun j hj => Nat.le_trans (hs j hj) (bc j hj)
      have hcd := cdN_8 hn bs
      -- the next one, or the end
      have k105x : ∀ Mx c3 c4 x5 x6, SI M Mx n N Q s (cdN s n + 1) (fun v => (wi n cap v ∧ odo n v s) ∨ ext n s v) → XS l 9 0 e155 (fun v M' o' => v = none ∧ o' = o ∧ shE M M' n N Q cap) nX G 105 [some (.ref 11), some (.int (nI N)), some (.int 1), some (.int c3), some (.int c4), x5, x6] [] Mx o 0 := by
        intro Mx c3 c4 x5 x6 hI
        obtain ⟨hSF, h52, k, Y, L, hk, hkK, hL, hY, hKI⟩ := hI
        have hown : ∀ f : Nat → Int32, mrow Mx 52 f 11 35 = nI n := fun f => (hSF.2 35 (by decide) (by decide)).trans hf
        have hcap : ∀ f : Nat → Int32, mrow Mx 52 f 51 = M 51 := fun f => hSF.1 51 (by decide) (by decide) (by decide) (by decide) (by decide)
        -- no more
        have kend : ∀ f x2 x5, (∀ j, j < n → s j = cap j) → G 134 [some (.ref 11), some (.int (nI N)), x2, some (.int c3), some (.int c4), x5, x6] [] (mrow Mx 52 f) o 0 := by
          intro f x2 x5 hall
          refine hG 134 _ _ _ _ _ ?_
          refine ⟨fun _ => ?_, fun q => absurd rfl q⟩
          refine hG 146 _ _ _ _ _ ?_
          refine hG 23 _ _ _ _ _ ?_
          refine ⟨fun _ => ?_, fun q => absurd rfl q⟩
          refine hG 147 _ _ _ _ _ ?_
          refine ⟨⟨rfl, rfl, hSF.row (Or.inl rfl) f, ?_⟩, Nat.le_refl _⟩
          have hP : ∀ v, wi n cap v → (wi n cap v ∧ odo n v s) ∨ ext n s v := fun v hv => (odo_end hall hv).elim (fun q => Or.inl ⟨hv, q⟩) Or.inr
          have hP' : ∀ v, (wi n cap v ∧ odo n v s) ∨ ext n s v → wi n cap v := fun v hv => hv.elim (fun q => q.1) (fun q j hj => by rw [q j hj]; exact hs j hj)
          rcases hKI with ⟨e1, e2, e3⟩ | ⟨b, b1, b2, b3, b4, b5, b6, b7⟩
          · exact absurd ⟨by rw [sumN_zero (fun _ _ => rfl)]; exact Nat.zero_le _, fun j _ => Or.inr (show 0 < 2 by decide)⟩ (e3 (fun _ => 0) (hP _ (fun j _ => Nat.zero_le _)))
          · exact ⟨k, L, b, by omega, hk, hL, hP' b b1, b2, b3, fun v hv ha => b5 v (hP v hv) ha, fun i hi => ⟨hP' _ (b6 i hi).1, (b6 i hi).2⟩, fun v hv ha he => b7 v (hP v hv) ha he⟩
        have k108 : ∀ q p f x5, x5 = some (.int (nI p)) → p + q = n → (∀ j, j < p → s j = cap j) → (∀ j, j < p → f j = 0) → (∀ j, p ≤ j → j < n → f j = nI (s j)) → G 108 [some (.ref 11), some (.int (nI N)), some (.int 1), some (.int c3), some (.int c4), x5, x6] [] (mrow Mx 52 f) o 0 := by
          intro q
          induction q with
          | zero =>
            intro p f x5 hx5 hp h1 h2 h3
            subst hx5
            have : p = n := by omega
            subst this
            refine hG 108 _ _ _ _ _ ?_
            refine ⟨fun _ => ?_, fun h => absurd (by rw [hown]; exact nI_le (Nat.le_refl _) (by omega)) h⟩
            refine hG 128 _ _ _ _ _ ?_
            refine ⟨fun _ => kend f _ _ h1, fun h => absurd (by rw [hown]; exact nI_le (Nat.le_refl _) (by omega)) h⟩
          | succ q ihq =>
            intro p f x5 hx5 hp h1 h2 h3
            subst hx5
            have hlt : p < n := by omega
            have ep : (nI p).toNatClampNeg = p := nI_clamp (by omega)
            have i8p : vp_in (nI p) 8 := vp_in_nI (by omega) (by decide)
            have bsp := bs p hlt
            have bcp := bc p hlt
            have hsp := hs p hlt
            refine hG 108 _ _ _ _ _ ?_
            refine ⟨fun h => absurd (by rw [← hown f]; exact h) (nI_ge (a := p) (b := n) (by omega) (by omega)), fun _ => ⟨i8p, i8p, ?_⟩⟩
            rw [ep, show mrow Mx 52 f 52 p = nI (s p) from h3 p (Nat.le_refl _) hlt, show mrow Mx 52 f 51 p = nI (cap p) by rw [hcap]; exact hc p hlt]
            refine ⟨fun h => ?_, fun h => ⟨i8p, ?_⟩⟩
            · have h : ¬ s p = cap p := fun z => h (by rw [z])
              refine hG 128 _ _ _ _ _ ?_
              refine ⟨fun z => absurd (by rw [← hown f]; exact z) (nI_ge (a := p) (b := n) (by omega) (by omega)), fun _ => ?_⟩
              refine hG 135 _ _ _ _ _ ?_
              refine ⟨fun z => absurd z (by decide), fun _ => ⟨i8p, i8p, ?_⟩⟩
              rw [ep, show mrow Mx 52 f 52 p = nI (s p) from h3 p (Nat.le_refl _) hlt, nI_1, mset_mrow]
              have hPe : (fun v => (wi n cap v ∧ odo n v s) ∨ ext n s v) = (fun v => wi n cap v ∧ odo n v (nxV s p)) := by
                funext v
                refine propext ⟨fun z => ?_, fun z => ?_⟩
                · have hv : wi n cap v := z.elim (fun y => y.1) (fun y j hj => by rw [y j hj]; exact hs j hj)
                  exact ⟨hv, (odo_next hlt h1 hv).mpr (z.elim (fun y => Or.inl y.2) Or.inr)⟩
                · exact ((odo_next hlt h1 z.1).mp z.2).elim (fun y => Or.inl ⟨z.1, y⟩) Or.inr
              have hcn := cdN_next hlt bs
              refine ih (nxV s p) _ _ _ _ _ (by omega) (fun j hj => ?_) ⟨hSF.row (Or.inl rfl) _, fun j hj => ?_, k, Y, L, hk, by omega, hL, hY, ?_⟩
              · unfold nxV
                split
                · exact Nat.zero_le _
                · split
                  · rename_i z; rw [z]; omega
                  · exact hs j hj
              · show upd f p (nI (s p + 1)) j = nI (nxV s p j)
                unfold nxV
                rcases Nat.lt_trichotomy j p with z | z | z
                · rw [pk_un (by omega), if_pos z]; exact h2 j z
                · subst z; rw [pk_us, if_neg (by omega), if_pos rfl]
                · rw [pk_un (by omega), if_neg (by omega), if_neg (by omega)]; exact h3 j (by omega) hj
              · rw [← hPe]; exact hKI
            · have h : s p = cap p := nI_inj (by omega) (by omega) h
              rw [ep, mset_mrow]
              have hnx := ihq (p + 1) (upd f p 0) (some (.int (nI p + 1))) (by rw [nI_1]) (by omega) (fun j hj => by
                by_cases z : j = p
                · subst z; exact h
                · exact h1 j (by omega)) (fun j hj => by
                by_cases z : j = p
                · subst z; rw [pk_us]
                · rw [pk_un z]; exact h2 j (by omega)) (fun j hj1 hj2 => by rw [pk_un (by omega)]; exact h3 j (by omega) hj2)
              exact hnx
        have := k108 n 0 (Mx 52) (some (.int (nI 0))) rfl (by omega) (fun j hj => absurd hj (Nat.not_lt_zero _)) (fun j hj => absurd hj (Nat.not_lt_zero _)) (fun j _ hj => h52 j hj)
        rw [mrow_self] at this
        exact this
      have k105 : ∀ Mx c3 c4 x5 x6, SI M Mx n N Q s (cdN s n + 1) (fun v => (wi n cap v ∧ odo n v s) ∨ ext n s v) → G 105 [some (.ref 11), some (.int (nI N)), some (.int 1), some (.int c3), some (.int c4), x5, x6] [] Mx o 0 := fun Mx c3 c4 x5 x6 h => hG 105 _ _ _ _ _ (k105x Mx c3 c4 x5 x6 h)
      obtain ⟨hSF, h52, k, Y, L, hk, hkK, hL, hY, hKI⟩ := hI
      have hPx : ∀ v v' : Nat → Nat, ext n v' v → (wi n cap v' ∧ odo n v' s) → (wi n cap v ∧ odo n v s) := by
        intro v v' hx hp
        refine ⟨fun j hj => by rw [hx j hj]; exact hp.1 j hj, ?_⟩
        obtain ⟨q, hq, h1, h2⟩ := hp.2
        exact ⟨q, hq, by rw [hx q hq]; exact h1, fun j a b => by rw [hx j b]; exact h2 j a b⟩
      -- it is kept
      have k101 : ∀ (Mz : Mem) (c : Int32) (x6 : Option Value) (k : Nat) (Y : Nat → Nat) (L : Nat → Nat → Nat) (c4 : Int32), ¬ 0 < c → SF M Mz → Nv (Mz 52) s n → Mz 11 38 = nI k → k ≤ cdN s n → (∀ i, i < k → ∀ j, j < n → Mz 53 (8 * i + j) = nI (L i j)) → (Mz 11 41 = -1 ∨ (Nv (Mz 55) Y n ∧ ∀ j, j < n → Y j < 20000000)) → (∀ L' : Nat → Nat → Nat, (∀ i, i < k → ∀ j, j < n → L' i j = L i j) → ext n s (L' k) → KI n Q N (fun v => (wi n cap v ∧ odo n v s) ∨ ext n s v) (Mz 11 41) (k + 1) Y L') → G 101 [some (.ref 11), some (.int (nI N)), some (.int 1), some (.int (nI (sumN s n))), some (.int c4), some (.int c), x6] [] Mz o 0 := by
        intro Mz c x6 k Y L c4 hcn hSF h52 hk hkK hL hY hKI
        refine hG 101 _ _ _ _ _ ?_
        refine ⟨fun h => absurd h hcn, fun _ => ?_⟩
        refine clP (c_X8_keepsShare hl Mz o (n := n) (k := k) (s := s) hn (by omega) ((hSF.2 35 (by decide) (by decide)).trans hf) h52 hk) (by decide) (by decide) (fun v M' o' q => ?_) (fun _ _ _ q => q.elim)
        obtain ⟨hv, ho, g, hM', hg1, hg2⟩ := q
        subst hv
        rw [ho, hM']
        have hxx := k105x (mset (mrow Mz 53 g) 11 38 (nI (k + 1))) (nI (sumN s n)) c4 (some (.int c)) x6 ⟨(hSF.row (Or.inr (Or.inl rfl)) g).fld (Or.inl rfl) _, h52, k + 1, Y, fun i => if i < k then L i else s, rfl, by omega, fun i hi j hj => (by
          show g (8 * i + j) = nI ((if i < k then L i else s) j)
          by_cases w : i < k
          · rw [if_pos w, hg2 _ (by omega)]; exact hL i w j hj
          · rw [if_neg w, show i = k by omega]; exact hg1 j hj), hY, hKI _ (fun i hi j hj => by show (if i < k then L i else s) j = L i j; rw [if_pos hi]) (fun j hj => by show (if k < k then L k else s) j = s j; rw [if_neg (by omega)])⟩
        exact hxx
      -- a better one
      have k75n : ∀ (Mz : Mem) (X : Nat → Nat) (c : Int32) (x5 x6 : Option Value) (c4 : Int32), c < 0 → SF M Mz → Nv (Mz 52) s n → Nv (Mz 54) X n → (∀ j, j < n → X j < 20000000) → Sd X (addf Q s) n → adm n N s → (∀ b, M 11 0 = M 11 0 → Mx 11 41 = nI (sumN b n) → adm n N b → Sd Y (addf Q b) n → (wi n cap b ∧ odo n b s) → sumN b n < sumN s n ∨ (sumN b n = sumN s n ∧ LxC n (addf Q s) (addf Q b))) → XS l 9 0 e155 (fun v M' o' => v = none ∧ o' = o ∧ shE M M' n N Q cap) nX G 75 [some (.ref 11), some (.int (nI N)), some (.int 1), some (.int (nI (sumN s n))), some (.int c4), x5, x6] [.int c] Mz o 0 := by
        intro Mz X c x5 x6 c4 hcn hSFz h52z h54 bX hSd ha hb
        refine ⟨fun h => absurd hcn (Int32.not_lt.mpr h), fun _ => ?_⟩
        have hKn : KI n Q N (fun v => (wi n cap v ∧ odo n v s) ∨ ext n s v) (nI (sumN s n)) 1 X (fun _ => s) := hKI.anew ha hSd (fun b e1 e2 e3 e4 => hb b rfl e1 e2 e3 e4) (fun _ _ => rfl)
        have hSFy : SF M (mset (mset Mz 11 41 (nI (sumN s n))) 11 38 0) := (hSFz.fld (Or.inr rfl) _).fld (Or.inl rfl) _
        have hown : ∀ f : Nat → Int32, mrow (mset (mset Mz 11 41 (nI (sumN s n))) 11 38 0) 55 f 11 35 = nI n := fun f => (hSFy.2 35 (by decide) (by decide)).trans hf
        have k87 : ∀ q p f, p + q = n → (∀ j, j < p → f j = nI (X j)) → G 87 [some (.ref 11), some (.int (nI N)), some (.int 1), some (.int (nI (sumN s n))), some (.int c4), some (.int c), some (.int (nI p))] [] (mrow (mset (mset Mz 11 41 (nI (sumN s n))) 11 38 0) 55 f) o 0 := by
          intro q
          induction q with
          | zero =>
            intro p f hp h1
            refine hG 87 _ _ _ _ _ ?_
            refine ⟨fun _ => ?_, fun h => absurd (by rw [hown]; exact nI_le (by omega) (by omega)) h⟩
            refine k101 _ c _ 0 X (fun _ => s) c4 (fun z => absurd hcn (Int32.not_lt.mpr (Int32.le_of_lt z))) (hSFy.row (Or.inr (Or.inr (Or.inr rfl))) f) h52z rfl (Nat.zero_le _) (fun i hi => absurd hi (Nat.not_lt_zero _)) (Or.inr ⟨fun j hj => h1 j (by omega), bX⟩) (fun L' _ hk' => ?_)
            exact hKI.anew ha hSd (fun b e1 e2 e3 e4 => hb b rfl e1 e2 e3 e4) hk'
          | succ q ihq =>
            intro p f hp h1
            have hlt : p < n := by omega
            have i8p : vp_in (nI p) 8 := vp_in_nI (by omega) (by decide)
            refine hG 87 _ _ _ _ _ ?_
            refine ⟨fun h => absurd (by rw [← hown f]; exact h) (nI_ge (a := p) (b := n) (by omega) (by omega)), fun _ => ⟨i8p, i8p, ?_⟩⟩
            rw [nI_clamp (by omega), show mrow (mset (mset Mz 11 41 (nI (sumN s n))) 11 38 0) 55 f 54 p = nI (X p) from h54 p hlt, mset_mrow]
            have hnx := ihq (p + 1) (upd f p (nI (X p))) (by omega) (fun j hj => by
              by_cases z : j = p
              · subst z; rw [pk_us]
              · rw [pk_un z]; exact h1 j (by omega))
            rw [← nI_1] at hnx
            exact hnx
        have := k87 n 0 (Mz 55) (by omega) (fun j hj => absurd hj (Nat.not_lt_zero _))
        rw [show mrow (mset (mset Mz 11 41 (nI (sumN s n))) 11 38 0) 55 (Mz 55) = mset (mset Mz 11 41 (nI (sumN s n))) 11 38 0 from mrow_self (mset (mset Mz 11 41 (nI (sumN s n))) 11 38 0) 55] at this
        exact this
      have hownx : Mx 11 35 = nI n := (hSF.2 35 (by decide) (by decide)).trans hf
      have hlev : ∀ b, Mx 11 41 = nI (sumN b n) → adm n N b → sumN b n ≤ 6 := fun b _ hb => sz b hb
      -- can it be
      have k63 : ∀ (b : Bool) x5 x6, (b = true ↔ adm n N s ∧ ¬ nI (sumN s n) < Mx 11 41) → G 63 [some (.ref 11), some (.int (nI N)), some (.int 1), some (.int (nI (sumN s n))), some (.int (cond b 1 0)), x5, x6] [] Mx o 0 := by
        intro b x5 x6 hb
        refine hG 63 _ _ _ _ _ ?_
        refine ⟨fun h => ?_, fun h => ?_⟩
        · have hbf := cond_z h
          refine k105 _ _ _ _ _ ⟨hSF, h52, k, Y, L, hk, by omega, hL, hY, ?_⟩
          refine hKI.skip ?_ (fun b h1 h2 => hfl _ b h1 h2)
          by_cases ha : adm n N s
          · have hlt : nI (sumN s n) < Mx 11 41 := by
              refine Classical.byContradiction (fun z => ?_)
              rw [hb.mpr ⟨ha, z⟩] at hbf
              exact absurd hbf (by decide)
            rcases hKI with ⟨e1, e2, e3⟩ | ⟨b, b1, b2, b3, b4, b5, b6, b7⟩
            · rw [e1] at hlt
              have := sz s ha
              exact absurd (Int32.lt_trans hlt (show (-1 : Int32) < 0 by decide)) (nI_pos (by omega))
            · have h6 := sz b b2
              have h7 := sz s ha
              rw [b3] at hlt
              have hlt : sumN s n < sumN b n := (nI_ltI (by omega) (by omega)).mp hlt
              exact Or.inr ⟨b, b2, b3, b1, b4, Or.inl hlt, fun z => by have := z.1; omega⟩
          · exact Or.inl ha
        · obtain ⟨ha, hnl⟩ := hb.mp (cond_n h)
          have h7 := sz s ha
          refine clP (c_X8_sortLed hl Mx o (n := n) (w := w) (Q := Q) (s := s) hn hownx (by rw [hSF.1 50 (by decide) (by decide) (by decide) (by decide) (by decide)]; exact hw) bw (fun j hj => by rw [hSF.1 47 (by decide) (by decide) (by decide) (by decide) (by decide)]; exact hQ j hj) bQ h52 bs) (by decide) (by decide) (fun v M' o' q => ?_) (fun _ _ _ q => q.elim)
          obtain ⟨hv, ho, g, X, hM', hg, hX, bX⟩ := q
          subst hv
          rw [ho, hM']
          have hSFz : SF M (mrow Mx 54 g) := hSF.row (Or.inr (Or.inr (Or.inl rfl))) g
          have hflz : mrow Mx 54 g 11 41 = Mx 11 41 := rfl
          refine ⟨fun h2 => ?_, fun h2 => ?_⟩
          · -- as many as the best
            have hfeq : Mx 11 41 = nI (sumN s n) := Int32.le_antisymm (Int32.not_lt.mp hnl) h2
            have hne : ¬ Mx 11 41 = -1 := by rw [hfeq]; exact im1 _ (by omega)
            obtain ⟨h55, bY⟩ := hY.resolve_left hne
            refine hG 73 _ _ _ _ _ ?_
            refine clI (c_X8_compared hl (mrow Mx 54 g) o (n := n) (X := X) (Y := Y) hn hownx hg h55 bX bY) (by decide) (by decide) ?_
            have hbs : ∀ b, Mx 11 41 = nI (sumN b n) → adm n N b → sumN b n = sumN s n := fun b e1 e2 => by
              have := sz b e2
              exact nI_inj (by omega) (by omega) (by rw [← e1, hfeq])
            have hsg : ∀ b, Sd Y (addf Q b) n → (cmF X Y n 0 < 0 ∧ LxC n (addf Q s) (addf Q b)) ∨ (cmF X Y n 0 = 0 ∧ EqC n (addf Q s) (addf Q b)) ∨ (¬ cmF X Y n 0 ≤ 0 ∧ LxC n (addf Q b) (addf Q s)) := fun b hb => cmF_sign hX hb bX bY n 0 (by omega) (fun q hq => absurd hq (Nat.not_lt_zero _))
            by_cases hneg : cmF X Y n 0 < 0
            · refine k75n (mrow Mx 54 g) X (cmF X Y n 0) _ _ _ hneg hSFz h52 hg bX hX ha (fun b _ e1 e2 e3 e4 => Or.inr ⟨hbs b e1 e2, ?_⟩)
              rcases hsg b e3 with q | q | q
              · exact q.2
              · rw [q.1] at hneg; exact absurd hneg (by decide)
              · exact absurd (Int32.le_of_lt hneg) q.1
            · refine ⟨fun _ => ?_, fun z => absurd (Int32.not_lt.mp hneg) z⟩
              by_cases hz : cmF X Y n 0 ≤ 0
              · have he0 : cmF X Y n 0 = 0 := Int32.le_antisymm hz (Int32.not_lt.mp hneg)
                refine k101 (mrow Mx 54 g) (cmF X Y n 0) _ k Y L _ (Int32.not_lt.mpr hz) hSFz h52 hk hkK hL (Or.inr ⟨h55, bY⟩) (fun L' h1 h2 => ?_)
                refine hKI.add hne ha (fun b e1 e2 e3 e4 => ⟨(hbs b e1 e2).symm, ?_⟩) h1 (fun v v' hx hp => hPx v v' hx hp) h2
                rcases hsg b e3 with q | q | q
                · exact absurd q.1 hneg
                · exact q.2.symm
                · exact absurd hz q.1
              · refine hG 101 _ _ _ _ _ ?_
                refine ⟨fun _ => ?_, fun z => absurd (Int32.not_le.mp hz) z⟩
                refine k105 _ _ _ _ _ ⟨hSFz, h52, k, Y, L, hk, by omega, hL, Or.inr ⟨h55, bY⟩, ?_⟩
                refine hKI.skip (Or.inr ?_) (fun b h1 h2 => hfl _ b h1 h2)
                rcases hKI with ⟨e1, e2, e3⟩ | ⟨b, b1, b2, b3, b4, b5, b6, b7⟩
                · exact absurd e1 hne
                · have hl := (hsg b b4).elim (fun q => absurd q.1 hneg) (fun q => q.elim (fun q => absurd (by rw [q.1]; decide) hz) (fun q => q.2))
                  exact ⟨b, b2, b3, b1, b4, Or.inr ⟨(hbs b b3 b2).symm, Or.inl hl⟩, fun z => hl.ne z.2⟩
          · -- more than the best
            have h2 : Mx 11 41 < nI (sumN s n) := Int32.not_le.mp h2
            refine hG 75 _ _ _ _ _ ?_
            refine k75n (mrow Mx 54 g) X (-1) _ _ _ (by decide) hSFz h52 hg bX hX ha (fun b _ e1 e2 e3 e4 => Or.inl ?_)
            have := sz b e2
            rw [e1] at h2
            exact (nI_ltI (by omega) (by omega)).mp h2
      have k42 : ∀ q j (b : Bool) x6, j + q = n → (b = true ↔ (sumN s n ≤ N ∧ ¬ nI (sumN s n) < Mx 11 41) ∧ ∀ p, p < j → 2 < N ∨ s p < 2) → G 42 [some (.ref 11), some (.int (nI N)), some (.int 1), some (.int (nI (sumN s n))), some (.int (cond b 1 0)), some (.int (nI j)), x6] [] Mx o 0 := by
        intro q
        induction q with
        | zero =>
          intro j b x6 hj hb
          refine hG 42 _ _ _ _ _ ?_
          refine ⟨fun _ => k63 b _ _ ?_, fun h => absurd (by rw [hownx]; exact nI_le (by omega) (by omega)) h⟩
          rw [hb]
          unfold adm
          rw [show j = n by omega]
          exact ⟨fun z => ⟨⟨z.1.1, z.2⟩, z.1.2⟩, fun z => ⟨⟨z.1.1, z.2⟩, z.1.2⟩⟩
        | succ q ihq =>
          intro j b x6 hj hb
          have hlt : j < n := by omega
          have bsj := bs j hlt
          have no : (¬ (b = true ∧ (2 < N ∨ s j < 2))) → G 59 [some (.ref 11), some (.int (nI N)), some (.int 1), some (.int (nI (sumN s n))), some (.int (cond b 1 0)), some (.int (nI j)), x6] [] Mx o 0 := by
            intro hn2
            refine hG 59 _ _ _ _ _ ?_
            have hnx := ihq (j + 1) false x6 (by omega) ⟨fun z => absurd z (by decide), fun z => absurd ⟨hb.mpr ⟨z.1, fun p hp => z.2 p (by omega)⟩, z.2 j (by omega)⟩ hn2⟩
            rw [← nI_1] at hnx
            exact hnx
          have yes : b = true → (2 < N ∨ s j < 2) → XS l 9 0 e155 (fun v M' o' => v = none ∧ o' = o ∧ shE M M' n N Q cap) nX G 57 [some (.ref 11), some (.int (nI N)), some (.int 1), some (.int (nI (sumN s n))), some (.int (cond b 1 0)), some (.int (nI j)), x6] [] Mx o 0 := by
            intro h1 h2
            refine hG 60 _ _ _ _ _ ?_
            have hnx := ihq (j + 1) true x6 (by omega) ⟨fun _ => ⟨(hb.mp h1).1, fun p hp => by
              by_cases z : p = j
              · subst z; exact h2
              · exact (hb.mp h1).2 p (by omega)⟩, fun _ => rfl⟩
            rw [← nI_1] at hnx
            exact hnx
          refine hG 42 _ _ _ _ _ ?_
          refine ⟨fun h => absurd (by rw [← hownx]; exact h) (nI_ge (a := j) (b := n) (by omega) (by omega)), fun _ => ⟨fun h => no (fun z => by rw [cond_z h] at z; exact absurd z.1 (by decide)), fun h => ⟨fun h2 => ?_, fun h2 => ⟨vp_in_nI (show j < 8 by omega) (by decide), ?_⟩⟩⟩⟩
          · have h2 : 2 < N := (nI_ltI (a := 2) (by decide) (by omega)).mp h2
            exact hG 57 _ _ _ _ _ (yes (cond_n h) (Or.inl h2))
          · have h2 : ¬ 2 < N := fun z => h2 (nI_lt (a := 2) z (by omega))
            rw [nI_clamp (by omega), h52 j hlt]
            refine ⟨fun h3 => no (fun z => ?_), fun h3 => yes (cond_n h) (Or.inr (Nat.not_le.mp (fun z => h3 (nI_le (a := 2) z (by omega)))))⟩
            have h3 : 2 ≤ s j := (nI_leI (a := 2) (by decide) (by omega)).mp h3
            rcases z.2 with z | z <;> omega
      have hsum : sumN s n ≤ 16 := by
        have h1 := sumN_mono (f := s) (g := fun _ => 2) (n := n) bs
        have h2 : ∀ m, sumN (fun _ => 2) m = 2 * m := by
          intro m
          induction m with
          | zero => rfl
          | succ m ihm => show sumN (fun _ => 2) m + 2 = _; rw [ihm]; omega
        rw [h2] at h1
        omega
      refine hG 23 _ _ _ _ _ ?_
      refine ⟨fun z => absurd z (by decide), fun _ => ?_⟩
      refine clI (c_X8_total hl Mx o (n := n) (s := s) hn hownx h52) (by decide) (by decide) ⟨fun h => ?_, fun h => ⟨fun h2 => ?_, fun h2 => ?_⟩⟩
      · refine hG 37 _ _ _ _ _ ?_
        have h : N < sumN s n := (nI_ltI (by omega) (by omega)).mp h
        exact k42 n 0 false _ (by omega) ⟨fun z => absurd z (by decide), fun z => by have := z.1.1; omega⟩
      · refine hG 37 _ _ _ _ _ ?_
        exact k42 n 0 false _ (by omega) ⟨fun z => absurd z (by decide), fun z => absurd h2 z.1.2⟩
      · refine hG 38 _ _ _ _ _ ?_
        have h : ¬ N < sumN s n := fun z => h (nI_lt z (by omega))
        exact k42 n 0 true _ (by omega) ⟨fun _ => ⟨⟨by omega, h2⟩, fun p hp => absurd hp (Nat.not_lt_zero _)⟩, fun _ => rfl⟩
  have k9 : ∀ q p f, p + q = n → (∀ j, j < p → f j = 0) → G 9 [some (.ref 11), some (.int (nI N)), some (.int (nI p)), none, none, none, none] [] (mrow (mset (mset M 11 41 (-1)) 11 38 0) 52 f) o 0 := by
    intro q
    induction q with
    | zero =>
      intro p f hp h1
      refine hG 9 _ _ _ _ _ ?_
      refine ⟨fun _ => ?_, fun h => absurd (by rw [show mrow (mset (mset M 11 41 (-1)) 11 38 0) 52 f 11 35 = nI n from hf]; exact nI_le (by omega) (by omega)) h⟩
      refine hG 20 _ _ _ _ _ ?_
      have hz : cdN (fun _ => 0) n = 0 := by
        have : ∀ m, cdN (fun _ => 0) m = 0 := by
          intro m
          induction m with
          | zero => rfl
          | succ m ihm => show cdN (fun _ => 0) m + 0 * 3 ^ m = 0; rw [ihm]; omega
        exact this n
      have hSF0 : SF M M := ⟨fun _ _ _ _ _ _ => rfl, fun _ _ _ => rfl⟩
      refine key 6561 (fun _ => 0) _ _ _ _ _ (by omega) (fun j _ => Nat.zero_le _) ⟨((hSF0.fld (Or.inr rfl) _).fld (Or.inl rfl) _).row (Or.inl rfl) f, fun j hj => h1 j (by omega), 0, fun _ => 0, fun _ _ => 0, rfl, Nat.zero_le _, fun i hi => absurd hi (Nat.not_lt_zero _), Or.inl rfl, Or.inl ⟨rfl, rfl, fun v hv => ?_⟩⟩
      obtain ⟨i, _, h2, _⟩ := hv.2
      exact absurd h2 (Nat.not_lt_zero _)
    | succ q ihq =>
      intro p f hp h1
      refine hG 9 _ _ _ _ _ ?_
      refine ⟨fun h => absurd (by rw [← show mrow (mset (mset M 11 41 (-1)) 11 38 0) 52 f 11 35 = nI n from hf]; exact h) (nI_ge (a := p) (b := n) (by omega) (by omega)), fun _ => ⟨vp_in_nI (show p < 8 by omega) (by decide), ?_⟩⟩
      rw [nI_clamp (by omega), mset_mrow]
      have hnx := ihq (p + 1) (upd f p 0) (by omega) (fun j hj => by
        by_cases z : j = p
        · subst z; rw [pk_us]
        · rw [pk_un z]; exact h1 j (by omega))
      rw [← nI_1] at hnx
      exact hnx
  have := k9 n 0 (M 52) (by omega) (fun j hj => absurd hj (Nat.not_lt_zero _))
  rw [show mrow (mset (mset M 11 41 (-1)) 11 38 0) 52 (M 52) = mset (mset M 11 41 (-1)) 11 38 0 from mrow_self (mset (mset M 11 41 (-1)) 11 38 0) 52] at this
  exact this
