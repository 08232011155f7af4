/-! CONTRACTS: the reference tries all ways. -/
def Tm (n k : Nat) (L : Nat → Nat → Nat) (u : Nat → Nat) : Prop := ∃ q, q < k ∧ ∀ j, j < n → L q j = u j
theorem Tm_TX (n k : Nat) (L : Nat → Nat → Nat) : TX n (Tm n k L) := by
  rintro s s' h ⟨q, hq, h1⟩
  exact ⟨q, hq, fun j hj => by rw [h1 j hj, h j hj]⟩
theorem sumN_eq_of {u s : Nat → Nat} {n : Nat} (h : ∀ j, j < n → u j ≤ s j) (hs : sumN s n ≤ sumN u n) : ∀ j, j < n → s j = u j := by
  intro j hj
  have h1 := sumN_one h j hj
  have h2 := h j hj
  omega
theorem tm_ge {n k m R : Nat} {L : Nat → Nat → Nat} {lo : Option Nat} {u : Nat → Nat} (hR : ∀ q, q < k → sumN (L q) n = R) (h : Ext n (Tm n k L) m lo u) : R ≤ sumN u n + m ∧ ∃ q, q < k ∧ ∀ j, j < n → u j ≤ L q j := by
  obtain ⟨s, ⟨q, hq, h1⟩, h2, h3, _⟩ := (ext_feas (Tm_TX n k L) m lo u).mp h
  refine ⟨?_, q, hq, fun j hj => by rw [h1 j hj]; exact h2 j hj⟩
  rw [← hR q hq, sumN_congr h1]
  exact h3
def TF (M M' : Mem) : Prop := ∀ a, a ≠ 56 → a ≠ 57 → M' a = M a
theorem TF.trans {M M' M'' : Mem} (h : TF M M') (h2 : TF M' M'') : TF M M'' := fun a a1 a2 => (h2 a a1 a2).trans (h a a1 a2)
theorem TF.used {M M' : Mem} (h : TF M M') (j : Nat) (x : Int32) : TF M (mset M' 57 j x) := fun a a1 a2 => by
  rw [show mset M' 57 j x a = M' a by simp [mset, a2]]; exact h a a1 a2
theorem TF.ride {M M' : Mem} (h : TF M M') (j : Nat) (x : Int32) : TF M (mset M' 56 j x) := fun a a1 a2 => by
  rw [show mset M' 56 j x a = M' a by simp [mset, a1]]; exact h a a1 a2
def trE (n : Nat) (T : (Nat → Nat) → Prop) (m i : Nat) (lo : Option Nat) (u : Nat → Nat) (M : Mem) (o : Ou) : Option Value → Mem → Ou → Prop := fun v M' o' => o' = o ∧ ∃ b : Bool, v = some (.int (cond b 1 0)) ∧ TF M M' ∧ (b = true ↔ Ext n T m lo u) ∧ (b = true → ∃ w, Gr n T m lo u w ∧ ∀ j, j < m → M' 56 (i + j) = oI (w.getD j none)) ∧ (b = false → Nv (M' 57) u n) ∧ ∀ j, j < i → M' 56 j = M 56 j
theorem c_X8_tries {l : Launch} (hl : l.stackTraces = false) {n N k R : Nat} {L : Nat → Nat → Nat} (hn : n ≤ 8) (hN : N ≤ 6) (hk : k ≤ 6561) (hR : ∀ q, q < k → sumN (L q) n = R) (bR : R ≤ 6) (bL : ∀ q, q < k → ∀ j, j < n → L q j ≤ 2) : ∀ m i lo u M o, i + m = N → M 11 35 = nI n → M 11 38 = nI k → M 11 41 = nI R → (∀ q, q < k → ∀ j, j < n → M 53 (8 * q + j) = nI (L q j)) → Nv (M 57) u n → (i = 0 → lo = none) → (0 < i → M 56 (i - 1) = oI lo) → (∀ q, lo = some q → q < n) → (∃ q, q < k ∧ ∀ j, j < n → u j ≤ L q j) → sumN u n ≤ i → Ct l (10 + m) 0 157 [.ref 11, .int (nI i), .int (nI N), .int (nI (sumN u n))] M o (trE n (Tm n k L) m i lo u M o) nX := by
  intro m
  induction m with
  | zero =>
    intro i lo u M o hi hf hm hfl hL hu h0 h1 hlo hq hsu
    have : i = N := by omega
    subst this
    refine ct_plain hl ok157 (by decide) (by decide) rfl rfl (by omega) (Nat.le_of_ble_eq_true rfl) (fun G hG => hG 0 _ _ _ _ _ ?_)
    have e1 : nI (sumN u n) + nI i - nI i = nI (sumN u n) := by rw [nI_add, pk_sub (by omega)]; congr 1; omega
    obtain ⟨q, hq, hle⟩ := hq
    refine ⟨fun h => ?_, fun h => ?_⟩
    · rw [e1, hfl] at h
      have h : R ≤ sumN u n := (nI_leI (by omega) (by omega)).mp h
      refine hG 10 _ _ _ _ _ ?_
      refine ⟨fun h2 => absurd rfl h2, fun _ => ?_⟩
      have hT : Tm n k L u := ⟨q, hq, sumN_eq_of hle (by rw [hR q hq]; exact h)⟩
      exact ⟨bz1, ⟨rfl, true, rfl, fun _ _ _ => rfl, ⟨fun _ => hT, fun _ => rfl⟩, fun _ => ⟨[], rfl, fun j hj => absurd hj (Nat.not_lt_zero _)⟩, fun z => absurd z (by decide), fun _ _ => rfl⟩, Nat.le_refl _⟩
    · rw [e1, hfl] at h
      have h : ¬ R ≤ sumN u n := fun z => h (nI_le z (by omega))
      refine ⟨bz0, ⟨rfl, false, rfl, fun _ _ _ => rfl, ⟨fun z => absurd z (by decide), fun z => ?_⟩, fun z => absurd z (by decide), fun _ => hu, fun _ _ => rfl⟩, Nat.le_refl _⟩
      exact absurd (tm_ge hR z).1 (by omega)
  | succ m ih =>
    intro i lo u M o hi hf hm hfl hL hu h0 h1 hlo hq hsu
    obtain ⟨q0, hq0, hle0⟩ := hq
    have bu : ∀ j, j < n → u j ≤ 2 := fun j hj => Nat.le_trans (hle0 j hj) (bL q0 hq0 j hj)
    refine ct_plain hl ok157 (by decide) (by decide) rfl rfl (by omega) (Nat.le_of_ble_eq_true rfl) (fun G hG => hG 0 _ _ _ _ _ ?_)
    have e1 : nI (sumN u n) + nI N - nI i = nI (sumN u n + (m + 1)) := by rw [nI_add, pk_sub (by omega)]; congr 1; omega
    have i6 : vp_in (nI i) 6 := vp_in_nI (by omega) (by decide)
    have ei : (nI i).toNatClampNeg = i := nI_clamp (by omega)
    -- no pony is left
    have k71 : ∀ Mx x, TF M Mx → Nv (Mx 57) u n → (∀ j, j < i → Mx 56 j = M 56 j) → (∀ j, j < n → ¬ (lo ≠ some j ∧ Ext n (Tm n k L) m (some j) (up1 u j))) → G 71 [some (.ref 11), some (.int (nI i)), some (.int (nI N)), some (.int (nI (sumN u n))), x] [] Mx o 0 := by
      intro Mx x hT h57 h56 hno
      refine hG 71 _ _ _ _ _ ?_
      refine ⟨i6, ?_⟩
      rw [ei]
      have hc := ih (i + 1) none u (mset Mx 56 i (-1)) o (by omega) ((congrFun (hT 11 (by decide) (by decide)) 35).trans hf) ((congrFun (hT 11 (by decide) (by decide)) 38).trans hm) ((congrFun (hT 11 (by decide) (by decide)) 41).trans hfl) (fun q hq j hj => by rw [show mset Mx 56 i (-1) 53 = Mx 53 from rfl, hT 53 (by decide) (by decide)]; exact hL q hq j hj) h57 (fun z => by omega) (fun _ => by rw [Nat.add_sub_cancel]; exact mset_same _ _ _ _) (fun q hq => by cases hq) ⟨q0, hq0, hle0⟩ (by omega)
      rw [← nI_1] at hc
      refine clP hc (by omega) (by decide) (fun v M' o' q => ?_) (fun _ _ _ q => q.elim)
      obtain ⟨ho, b, hv, hTF, hb, hbt, hbf, hrd⟩ := q
      subst hv
      rw [ho]
      refine ⟨bzc _, ⟨rfl, b, rfl, (hT.ride i (-1)).trans hTF, ?_, fun hbb => ?_, hbf, fun j hj => ?_⟩, Nat.le_refl _⟩
      · rw [hb]
        exact ⟨fun z => Or.inr z, fun z => z.elim (fun ⟨j, hj, z1, z2⟩ => absurd ⟨z1, z2⟩ (hno j hj)) (fun z => z)⟩
      · obtain ⟨w, hg, hw⟩ := hbt hbb
        refine ⟨none :: w, ⟨none, w, rfl, hno, hg⟩, fun j hj => ?_⟩
        cases j with
        | zero =>
          have e3 := hrd i (by omega)
          rw [Nat.add_zero, e3]
          exact mset_same _ _ _ _
        | succ j =>
          have e3 := hw j (by omega)
          rw [show i + (j + 1) = i + 1 + j by omega, e3]
          rfl
      · rw [hrd j (by omega)]
        show upd (Mx 56) i (-1) j = _
        rw [pk_un (by omega)]
        exact h56 j hj
    have k18 : ∀ q j Mx, j + q = n → TF M Mx → Nv (Mx 57) u n → (∀ p, p < i → Mx 56 p = M 56 p) → (∀ p, p < j → ¬ (lo ≠ some p ∧ Ext n (Tm n k L) m (some p) (up1 u p))) → G 18 [some (.ref 11), some (.int (nI i)), some (.int (nI N)), some (.int (nI (sumN u n))), some (.int (nI j))] [] Mx o 0 := by
      intro q
      induction q with
      | zero =>
        intro j Mx hj hT h57 h56 hno
        refine hG 18 _ _ _ _ _ ?_
        refine ⟨fun _ => k71 Mx _ hT h57 h56 (fun p hp => hno p (by omega)), fun h => absurd (by rw [(congrFun (hT 11 (by decide) (by decide)) 35).trans hf]; exact nI_le (by omega) (by omega)) h⟩
      | succ q ihq =>
        intro j Mx hj hT h57 h56 hno
        have hlt : j < n := by omega
        have i8j : vp_in (nI j) 8 := vp_in_nI (by omega) (by decide)
        have ej : (nI j).toNatClampNeg = j := nI_clamp (by omega)
        have buj := bu j hlt
        -- it was not that one
        have next : ∀ Mx', TF M Mx' → Nv (Mx' 57) u n → (∀ p, p < i → Mx' 56 p = M 56 p) → ¬ (lo ≠ some j ∧ Ext n (Tm n k L) m (some j) (up1 u j)) → XS l (10 + (m + 1)) 0 e157 (trE n (Tm n k L) (m + 1) i lo u M o) nX G 69 [some (.ref 11), some (.int (nI i)), some (.int (nI N)), some (.int (nI (sumN u n))), some (.int (nI j))] [] Mx' o 0 := by
          intro Mx' hT h57 h56 hnj
          have hnx := ihq (j + 1) Mx' (by omega) hT h57 h56 (fun p hp => by
            by_cases z : p = j
            · subst z; exact hnj
            · exact hno p (by omega))
          rw [← nI_1] at hnx
          exact hnx
        -- take it
        have k33 : lo ≠ some j → G 33 [some (.ref 11), some (.int (nI i)), some (.int (nI N)), some (.int (nI (sumN u n))), some (.int (nI j))] [] Mx o 0 := by
          intro hlj
          have hMy57 : Nv (upd (Mx 57) j (nI (u j + 1))) (up1 u j) n := h57.up j (u j + 1)
          have hTy : TF M (mset (mset Mx 57 j (nI (u j + 1))) 56 i (nI j)) := (hT.used j _).ride i _
          -- after a failure
          have k61 : ∀ Mz, TF M Mz → Nv (Mz 57) (up1 u j) n → (∀ p, p < i → Mz 56 p = M 56 p) → ¬ Ext n (Tm n k L) m (some j) (up1 u j) → G 61 [some (.ref 11), some (.int (nI i)), some (.int (nI N)), some (.int (nI (sumN u n))), some (.int (nI j))] [] Mz o 0 := by
            intro Mz hTz hz57 hz56 hne
            refine hG 61 _ _ _ _ _ ?_
            refine ⟨i8j, i8j, ?_⟩
            rw [ej, hz57 j hlt, up1_same, nI_pred]
            refine next _ (hTz.used j _) (fun p hp => ?_) hz56 (fun z => hne z.2)
            show upd (Mz 57) j (nI (u j)) p = nI (u p)
            by_cases w : p = j
            · subst w; rw [pk_us]
            · rw [pk_un w, hz57 p hp, up1_ne u w]
          refine hG 33 _ _ _ _ _ ?_
          refine ⟨i8j, i8j, i6, ?_⟩
          rw [ej, ei, h57 j hlt, nI_1]
          have hcl : ∀ P : Prop, ∃ b : Bool, b = true ↔ P := fun P => by
            by_cases h : P
            · exact ⟨true, fun _ => h, fun _ => rfl⟩
            · exact ⟨false, fun z => absurd z (by decide), fun z => absurd z h⟩
          obtain ⟨b, hb⟩ := hcl (∃ q, q < k ∧ ∀ p, p < n → up1 u j p ≤ L q p)
          have h56y : ∀ p, p < i → mset (mset Mx 57 j (nI (u j + 1))) 56 i (nI j) 56 p = M 56 p := fun p hp => by
            show upd (Mx 56) i (nI j) p = _
            rw [pk_un (by omega)]; exact h56 p hp
          have hf' : mset (mset Mx 57 j (nI (u j + 1))) 56 i (nI j) 11 35 = nI n := (congrFun (hT 11 (by decide) (by decide)) 35).trans hf
          have hm' : mset (mset Mx 57 j (nI (u j + 1))) 56 i (nI j) 11 38 = nI k := (congrFun (hT 11 (by decide) (by decide)) 38).trans hm
          have hfl' : mset (mset Mx 57 j (nI (u j + 1))) 56 i (nI j) 11 41 = nI R := (congrFun (hT 11 (by decide) (by decide)) 41).trans hfl
          have hL' : ∀ q, q < k → ∀ p, p < n → mset (mset Mx 57 j (nI (u j + 1))) 56 i (nI j) 53 (8 * q + p) = nI (L q p) := fun q hq p hp => by
            rw [show mset (mset Mx 57 j (nI (u j + 1))) 56 i (nI j) 53 = Mx 53 from rfl, hT 53 (by decide) (by decide)]; exact hL q hq p hp
          refine clI (c_X8_mayGoOn hl (mset (mset Mx 57 j (nI (u j + 1))) 56 i (nI j)) o (n := n) (k := k) (u := up1 u j) (L := L) (b := b) hn hk hf' hm' hMy57 (fun p hp => by
            by_cases w : p = j
            · subst w; rw [up1_same]; omega
            · rw [up1_ne u w]; have := bu p hp; omega) (fun q hq p hp => ⟨hL' q hq p hp, by have := bL q hq p hp; omega⟩) hb) (by omega) (by decide) ⟨fun h => ?_, fun h => ?_⟩
          · refine k61 _ hTy hMy57 h56y (fun z => ?_)
            have hbf := cond_z h
            rw [hb.mpr (tm_ge hR z).2] at hbf
            exact absurd hbf (by decide)
          · have hbt := hb.mp (cond_n h)
            have hc := ih (i + 1) (some j) (up1 u j) (mset (mset Mx 57 j (nI (u j + 1))) 56 i (nI j)) o (by omega) hf' hm' hfl' hL' hMy57 (fun z => by omega) (fun _ => by rw [Nat.add_sub_cancel]; exact mset_same _ _ _ _) (fun q hq => by cases hq; exact hlt) hbt (by rw [up1_sum u hlt]; omega)
            rw [up1_sum u hlt, ← nI_1, ← nI_1] at hc
            refine clP hc (by omega) (by decide) (fun v M' o' q => ?_) (fun _ _ _ q => q.elim)
            obtain ⟨ho, b', hv, hTF, hb', hbt', hbf', hrd⟩ := q
            subst hv
            rw [ho]
            have hrd' : ∀ p, p < i → M' 56 p = M 56 p := fun p hp => (hrd p (by omega)).trans (h56y p hp)
            refine ⟨fun h2 => ?_, fun h2 => ?_⟩
            · have hbb := cond_z h2
              exact k61 M' (hTy.trans hTF) (hbf' hbb) hrd' (fun z => by rw [hb'.mpr z] at hbb; exact absurd hbb (by decide))
            · have hbb := cond_n h2
              obtain ⟨w, hg, hw⟩ := hbt' hbb
              have hex := hb'.mp hbb
              refine ⟨bz1, ⟨rfl, true, rfl, hTy.trans hTF, ⟨fun _ => Or.inl ⟨j, hlt, hlj, hex⟩, fun _ => rfl⟩, fun _ => ⟨some j :: w, ⟨some j, w, rfl, ⟨hlt, ⟨hlj, hex⟩, hno⟩, hg⟩, fun p hp => ?_⟩, fun z => absurd z (by decide), hrd'⟩, Nat.le_refl _⟩
              cases p with
              | zero =>
                rw [Nat.add_zero, hrd i (by omega)]
                exact mset_same _ _ _ _
              | succ p =>
                rw [show i + (p + 1) = i + 1 + p by omega, hw p (by omega)]
                rfl
        refine hG 18 _ _ _ _ _ ?_
        refine ⟨fun h => absurd (by rw [(congrFun (hT 11 (by decide) (by decide)) 35).trans hf] at h; exact h) (nI_ge (a := j) (b := n) (by omega) (by omega)), fun _ => ⟨fun h => k33 ?_, fun h => ?_⟩⟩
        · have hi0 : i = 0 := by
            rcases Nat.eq_zero_or_pos i with z | z
            · exact z
            · exact absurd h (nI_nle z (by omega))
          rw [h0 hi0]
          intro z; cases z
        · have hi0 : 0 < i := by
            rcases Nat.eq_zero_or_pos i with z | z
            · rw [z] at h; exact absurd (by decide) h
            · exact z
          have e4 : nI i - 1 = nI (i - 1) := by rw [← nI_pred (i - 1), show i - 1 + 1 = i by omega]
          refine ⟨by rw [e4]; exact vp_in_nI (show i - 1 < 6 by omega) (by decide), ?_⟩
          rw [e4, nI_clamp (by omega), h56 (i - 1) (by omega), h1 hi0]
          refine ⟨fun h2 => k33 (fun z => h2 (by rw [z]; rfl)), fun h2 => ?_⟩
          refine hG 69 _ _ _ _ _ ?_
          refine next Mx hT h57 h56 (fun z => ?_)
          cases hlo2 : lo with
          | none => rw [hlo2] at h2; exact absurd h2.symm (im1 j (by omega))
          | some q =>
            rw [hlo2] at h2
            have hqn := hlo q hlo2
            have : q = j := nI_inj (by omega) (by omega) h2
            exact z.1 (by rw [hlo2, this])
    refine ⟨fun h => ?_, fun h => ?_⟩
    · refine hG 10 _ _ _ _ _ ?_
      refine ⟨fun _ => ?_, fun h2 => absurd (nI_inj (by omega) (by omega) h2) (by omega)⟩
      refine hG 15 _ _ _ _ _ ?_
      exact k18 n 0 M (by omega) (fun _ _ _ => rfl) hu (fun _ _ => rfl) (fun p hp => absurd hp (Nat.not_lt_zero _))
    · rw [e1, hfl] at h
      have h : ¬ R ≤ sumN u n + (m + 1) := fun z => h (nI_le z (by omega))
      refine ⟨bz0, ⟨rfl, false, rfl, fun _ _ _ => rfl, ⟨fun z => absurd z (by decide), fun z => ?_⟩, fun z => absurd z (by decide), fun _ => hu, fun _ _ => rfl⟩, Nat.le_refl _⟩
      exact absurd (tm_ge hR z).1 h
