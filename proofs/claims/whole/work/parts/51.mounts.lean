/-! CONTRACTS: the reference's mounts. -/
def Tb (n N : Nat) (Q cap b u : Nat → Nat) : Prop := wi n cap u ∧ adm n N u ∧ Eqv n Q b u
def MRS : List Nat := [11, 50, 51, 52, 53, 54, 55, 56, 57]
def MFr (M M' : Mem) : Prop := (∀ a, a ∉ MRS → M' a = M a) ∧ ∀ q, q ≠ 35 → q ≠ 38 → q ≠ 41 → M' 11 q = M 11 q
abbrev moZ (M : Mem) (a b c : Nat → Int32) (n : Nat) : Mem := mset (mrow (mrow (mrow M 50 a) 51 b) 57 c) 11 35 (nI n)
def moE (M : Mem) (o : Ou) (xs : List Nat) (N : Nat) (Q cap : Nat → Nat) : Option Value → Mem → Ou → Prop := fun v M' o' => v = none ∧ o' = o ∧ MFr M M' ∧ Nv (M' 50) (ow xs) xs.length ∧ ∃ b w, wi xs.length cap b ∧ adm xs.length N b ∧ (∀ v, wi xs.length cap v → adm xs.length N v → Lev xs.length Q b v) ∧ Gr xs.length (Tb xs.length N Q cap b) N none (fun _ => 0) w ∧ Ext xs.length (Tb xs.length N Q cap b) N none (fun _ => 0) ∧ ∀ j, j < N → M' 56 j = oI (w.getD j none)
theorem c_X8_mounts {l : Launch} (hl : l.stackTraces = false) (M : Mem) (o : Ou) {m N : Nat} {pl rd Q cap : Nat → Nat} {xs : List Nat} (p : Int32) (hm : M 11 30 = nI m) (h60 : m ≤ 60) (h8 : cntN (M 46) p m ≤ 8) (hp : ∀ k, k < m → M 47 k = nI (pl k)) (bp : ∀ k, k < m → pl k < 10000000) (hr : ∀ k, k < m → M 48 k = nI (rd k) ∧ rd k ≤ 2) (hN : N ≤ 6) (h1 : 1 ≤ N) (hxs : xs = ownL (M 46) p m) (hQ : Q = fun j => pl (ow xs j)) (hC : cap = fun j => cpF (M 49) (M 11 31) rd (ow xs j)) : Ct l 17 0 158 [.ref 11, .int p, .int (nI N)] M o (moE M o xs N Q cap) nX := by
  have x8 : xs.length ≤ 8 := by rw [hxs, ownL_len]; exact h8
  have xlt : ∀ j, j < xs.length → ow xs j < m := fun j hj => by have := ow_mem hj; rw [hxs] at this; exact (ownL_lt (by rw [hxs]; exact this)).1
  have bQ : ∀ j, j < xs.length → Q j < 10000000 := fun j hj => by rw [hQ]; exact bp _ (xlt j hj)
  have bC : ∀ j, j < xs.length → cap j ≤ 2 := fun j hj => by rw [hC]; exact cpF_le _ _ _ _
  refine ct_plain hl ok158 (by decide) (by decide) rfl rfl (by decide) (Nat.le_of_ble_eq_true rfl) (fun G hG => hG 0 _ _ _ _ _ ?_)
  -- the search
  have k57 : ∀ a b c x, Nv a (ow xs) xs.length → Nv b cap xs.length → Nv c (fun _ => 0) xs.length → G 57 [some (.ref 11), some (.int p), some (.int (nI N)), x, none] [] (moZ M a b c xs.length) o 0 := by
    intro a b c x ha hb hc
    refine hG 57 _ _ _ _ _ ?_
    refine clP (c_X8_sharesOf hl (moZ M a b c xs.length) o (n := xs.length) (N := N) (w := ow xs) (Q := Q) (cap := cap) x8 hN rfl ha (fun j hj => by have := xlt j hj; omega) (fun j hj => by rw [hQ]; exact hp _ (xlt j hj)) bQ hb bC) (by decide) (by decide) (fun v M' o' q => ?_) (fun _ _ _ q => q.elim)
    obtain ⟨hv, ho, hSF, k, L, bb, hk, hsm, hL, hbw, hba, hbf, hbo, hLk, hall⟩ := q
    subst hv
    rw [ho]
    have hz0 : sumN (fun _ => 0) xs.length = 0 := sumN_zero (fun _ _ => rfl)
    have hRs : ∀ q, q < k → sumN (L q) xs.length = sumN bb xs.length := fun q hq => (hLk q hq).2.2.1
    have hTe : ∀ u, Tm xs.length k L u ↔ Tb xs.length N Q cap bb u := by
      intro u
      constructor
      · rintro ⟨q, hq, hh⟩
        obtain ⟨c1, c2, c3⟩ := hLk q hq
        have hx : ext xs.length (L q) u := fun j hj => (hh j hj).symm
        exact ⟨fun j hj => by rw [hx j hj]; exact c1 j hj, ⟨by rw [ext_sum hx]; exact c2.1, fun j hj => by rw [hx j hj]; exact c2.2 j hj⟩, by rw [ext_sum hx]; exact c3.1, c3.2.trans (ext_cn hx)⟩
      · rintro ⟨c1, c2, c3⟩
        exact hall u c1 c2 c3
    have hTeq : Tm xs.length k L = Tb xs.length N Q cap bb := funext (fun u => propext (hTe u))
    have hbT : Tm xs.length k L bb := (hTe bb).mpr ⟨hbw, hba, rfl, fun _ => rfl⟩
    have hq0 : ∃ q, q < k ∧ ∀ j, j < xs.length → (fun _ => 0) j ≤ L q j := by
      obtain ⟨q, hq, _⟩ := hbT
      exact ⟨q, hq, fun j _ => Nat.zero_le _⟩
    have hext : Ext xs.length (Tm xs.length k L) N none (fun _ => 0) := by
      refine (ext_feas (Tm_TX _ _ _) N none _).mpr ⟨bb, hbT, fun j _ => Nat.zero_le _, by rw [hz0]; have := hba.1; omega, fun j hj => ?_⟩
      rw [mq_ne N (by intro w; cases w)]
      have h2 := hbw j hj
      have h3 := bC j hj
      have h4 := hba.2 j hj
      show bb j - 0 ≤ (N + 1) / 2
      rcases h4 with h4 | h4 <;> omega
    have ht := c_X8_tries hl (n := xs.length) (N := N) (k := k) (R := sumN bb xs.length) (L := L) x8 hN hk hRs (by have := hba.1; omega) (fun q hq j hj => Nat.le_trans ((hLk q hq).1 j hj) (bC j hj)) N 0 none (fun _ => 0) M' o (by omega) (hSF.2 35 (by decide) (by decide)) hsm hbf hL (by rw [hSF.1 57 (by decide) (by decide) (by decide) (by decide) (by decide)]; exact hc) (fun _ => rfl) (fun z => absurd z (Nat.not_lt_zero _)) (fun q hq => by cases hq) hq0 (by rw [hz0]; exact Nat.le_refl _)
    rw [hz0] at ht
    refine clP ht (by omega) (by decide) (fun v M2 o2 q => ?_) (fun _ _ _ q => q.elim)
    obtain ⟨ho2, b2, hv2, hTF, hb2, hbt2, _, _⟩ := q
    subst hv2
    rw [ho2]
    have hbb : b2 = true := hb2.mpr hext
    obtain ⟨w, hg, hw⟩ := hbt2 hbb
    rw [hTeq] at hg hext
    subst hbb
    refine hG 69 _ _ _ _ _ ?_
    refine ⟨fun h => absurd h (nI_ge (a := 0) (b := N) (by omega) (by omega)), fun _ => ⟨fun _ => ?_, fun z => absurd z (by decide)⟩⟩
    refine hG 81 _ _ _ _ _ ?_
    refine ⟨⟨rfl, rfl, ⟨fun y hy => ?_, fun q q1 q2 q3 => ?_⟩, ?_, bb, w, hbw, hba, hbo, hg, hext, fun j hj => ?_⟩, Nat.le_refl _⟩
    · simp only [MRS, List.mem_cons, List.not_mem_nil, or_false, not_or] at hy
      obtain ⟨y1, y2, y3, y4, y5, y6, y7, y8, y9⟩ := hy
      rw [hTF y y8 y9, hSF.1 y y1 y4 y5 y6 y7]
      simp [moZ, mset, mrow, y1, y2, y3, y9]
    · rw [hTF 11 (by decide) (by decide), hSF.2 q q2 q3]
      show upd (M 11) 35 (nI xs.length) q = _
      rw [pk_un q1]
    · rw [hTF 50 (by decide) (by decide), hSF.1 50 (by decide) (by decide) (by decide) (by decide) (by decide)]
      exact ha
    · have := hw j hj
      rw [Nat.zero_add] at this
      exact this
  have key : ∀ q j a b c, j + q = m → Nv a (ow (ownL (M 46) p j)) (ownL (M 46) p j).length → Nv b (fun i => cpF (M 49) (M 11 31) rd (ow (ownL (M 46) p j) i)) (ownL (M 46) p j).length → Nv c (fun _ => 0) (ownL (M 46) p j).length → G 6 [some (.ref 11), some (.int p), some (.int (nI N)), some (.int (nI j)), none] [] (moZ M a b c (ownL (M 46) p j).length) o 0 := by
    intro q
    induction q with
    | zero =>
      intro j a b c hj h2 h3 h4
      have : j = m := by omega
      subst this
      refine hG 6 _ _ _ _ _ ?_
      refine ⟨fun _ => ?_, fun h => absurd (by rw [show moZ M a b c (ownL (M 46) p j).length 11 30 = nI j from hm]; exact nI_le (Nat.le_refl _) (by omega)) h⟩
      rw [← hxs] at h2 h3 h4 ⊢
      exact k57 a b c _ h2 (by rw [hC]; exact h3) h4
    | succ q ih =>
      intro j a b c hj h2 h3 h4
      have hlt : j < m := by omega
      have hnx := ih (j + 1)
      have h8j : (ownL (M 46) p (j + 1)).length ≤ 8 := by rw [ownL_len]; exact Nat.le_trans (cntN_mono _ _ (by omega)) h8
      rw [ownL_succ] at hnx h8j
      generalize ownL (M 46) p j = ys at h2 h3 h4 hnx h8j ⊢
      have hin : vp_in (nI j) 60 := vp_in_nI (by omega) (by decide)
      have ej : (nI j).toNatClampNeg = j := nI_clamp (by omega)
      refine hG 6 _ _ _ _ _ ?_
      refine ⟨fun h => absurd (by rw [← show moZ M a b c ys.length 11 30 = nI m from hm]; exact h) (nI_ge (a := j) (b := m) hlt (by omega)), fun _ => ⟨hin, ?_⟩⟩
      rw [ej, show moZ M a b c ys.length 46 j = M 46 j from rfl]
      refine ⟨fun h => ?_, fun h => ?_⟩
      · have el : (ys ++ [j]).length = ys.length + 1 := by rw [List.length_append]; rfl
        rw [if_pos h] at h8j hnx
        rw [el] at h8j hnx
        have ein : vp_in (nI ys.length) 8 := vp_in_nI (by omega) (by decide)
        have ex : (nI ys.length).toNatClampNeg = ys.length := nI_clamp (by omega)
        obtain ⟨hr1, hr2⟩ := hr j hlt
        -- with the number of rides
        have fin : ∀ y, y = nI (cpF (M 49) (M 11 31) rd j) → XS l 17 0 e158 (moE M o xs N Q cap) nX G 42 [some (.ref 11), some (.int p), some (.int (nI N)), some (.int (nI j)), none] [.int y, .int (nI ys.length), .ref 51] (mset (moZ M a b c ys.length) 50 ys.length (nI j)) o 0 := by
          intro y hy
          refine ⟨ein, ?_⟩
          rw [ex]
          refine ⟨ein, ?_⟩
          have hnx := hnx (upd a ys.length (nI j)) (upd b ys.length y) (upd c ys.length 0) (by omega) (fun q hq => by
            by_cases w : q = ys.length
            · subst w; rw [pk_us, ow_app2]
            · rw [pk_un w, ow_app1 (by omega)]; exact h2 q (by omega)) (fun q hq => by
            show _ = nI (cpF (M 49) (M 11 31) rd (ow (ys ++ [j]) q))
            by_cases w : q = ys.length
            · subst w; rw [pk_us, ow_app2, hy]
            · rw [pk_un w, ow_app1 (by omega)]; exact h3 q (by omega)) (fun q hq => by
            by_cases w : q = ys.length
            · subst w; rw [pk_us]; rfl
            · rw [pk_un w]; exact h4 q (by omega))
          rw [← nI_1] at hnx
          have e1 : mset (mset (moZ M a b c ys.length) 50 ys.length (nI j)) 51 ys.length y 11 35 = nI ys.length := rfl
          rw [e1, ex]
          have em : mset (mset (mset (mset (moZ M a b c ys.length) 50 ys.length (nI j)) 51 ys.length y) 57 ys.length 0) 11 35 ((mset (mset (mset (moZ M a b c ys.length) 50 ys.length (nI j)) 51 ys.length y) 57 ys.length 0) 11 35 + 1) = moZ M (upd a ys.length (nI j)) (upd b ys.length y) (upd c ys.length 0) (ys.length + 1) := by
            rw [show (mset (mset (mset (moZ M a b c ys.length) 50 ys.length (nI j)) 51 ys.length y) 57 ys.length 0) 11 35 = nI ys.length from rfl, nI_1]
            funext z
            by_cases w1 : z = 50
            · subst w1; rfl
            by_cases w2 : z = 51
            · subst w2; rfl
            by_cases w3 : z = 57
            · subst w3; rfl
            by_cases w4 : z = 11
            · subst w4; exact congrFun (mset_mset M 11 35 _ _) 11
            · simp [moZ, mset, mrow, w1, w2, w3, w4]
          rw [← em] at hnx
          exact hnx
        refine hG 17 _ _ _ _ _ ?_
        refine ⟨ein, ?_⟩
        rw [show moZ M a b c ys.length 11 35 = nI ys.length from mset_same _ _ _ _, ex]
        refine ⟨hin, ?_⟩
        rw [ej, show mset (moZ M a b c ys.length) 50 ys.length (nI j) 49 j = M 49 j from rfl]
        refine ⟨fun h5 => ?_, fun h5 => ?_⟩
        · have h5 : M 49 j ≤ M 11 31 := h5
          refine hG 36 _ _ _ _ _ ?_
          refine ⟨hin, ?_⟩
          rw [ej, show mset (moZ M a b c ys.length) 50 ys.length (nI j) 48 j = nI (rd j) from hr1]
          exact fin _ (by unfold cpF; rw [if_pos h5, i2, pk_sub hr2])
        · have h5 : ¬ M 49 j ≤ M 11 31 := h5
          refine hG 42 _ _ _ _ _ ?_
          exact fin _ (by unfold cpF; rw [if_neg h5]; rfl)
      · refine hG 55 _ _ _ _ _ ?_
        have := hnx a b c (by omega)
        rw [if_neg h, List.append_nil, ← nI_1] at this
        exact this h2 h3 h4
  have := key m 0 (M 50) (M 51) (M 57) (by omega) (fun j h => absurd h (Nat.not_lt_zero _)) (fun j h => absurd h (Nat.not_lt_zero _)) (fun j h => absurd h (Nat.not_lt_zero _))
  rw [show moZ M (M 50) (M 51) (M 57) (ownL (M 46) p 0).length = mset M 11 35 0 by unfold moZ; rw [show mrow (mrow (mrow M 50 (M 50)) 51 (M 51)) 57 (M 57) = M by rw [mrow_self, mrow_self, mrow_self]]; rfl] at this
  exact this
