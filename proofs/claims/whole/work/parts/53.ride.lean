/-! CONTRACTS: a player rides, on the planner's side. -/
theorem ownL_inj {f : Nat → Int32} {p : Int32} {m i j : Nat} (hi : i < (ownL f p m).length) (hj : j < (ownL f p m).length) (h : ow (ownL f p m) i = ow (ownL f p m) j) : i = j := by
  have hnd : (ownL f p m).Pairwise (· ≠ ·) := List.Pairwise.filter _ (List.nodup_range)
  have hp := List.pairwise_iff_getElem.mp hnd
  unfold ow at h
  rw [List.getD_eq_getElem?_getD, List.getD_eq_getElem?_getD, List.getElem?_eq_getElem hi, List.getElem?_eq_getElem hj] at h
  rcases Nat.lt_trichotomy i j with q | q | q
  · exact absurd h (hp i j hi hj q)
  · exact q
  · exact absurd h.symm (hp j i hj hi q)
theorem rdW_at {f0 : Nat → Int32} {p : Int32} {m : Nat} : ∀ {w : List (Option Nat)} {f : Nat → Nat}, (∀ i, some i ∈ w → i < (ownL f0 p m).length) → ∀ i, i < (ownL f0 p m).length → rdW (ownL f0 p m) w f (ow (ownL f0 p m) i) = f (ow (ownL f0 p m) i) + cwN i w := by
  intro w
  induction w with
  | nil => intro f _ i _; rfl
  | cons x w ih =>
    intro f hw i hi
    have ih' := fun f => ih (f := f) (fun k hk => hw k (List.mem_cons_of_mem _ hk)) i hi
    cases x with
    | none =>
      show rdW _ w f _ = _ + ((if none = some i then 1 else 0) + cwN i w)
      rw [ih' f, if_neg (by intro z; cases z)]; omega
    | some k =>
      have hk := hw k List.mem_cons_self
      show rdW _ w (updN f (ow (ownL f0 p m) k) _) _ = _ + ((if some k = some i then 1 else 0) + cwN i w)
      rw [ih']
      by_cases q : k = i
      · subst q; rw [updN_same, if_pos rfl]; omega
      · rw [updN_ne _ _ (fun z => q (ownL_inj hi hk z).symm), if_neg (fun z => q (by cases z; rfl))]; omega
theorem rdW_out {xs : List Nat} {k : Nat} (hk : k ∉ xs) : ∀ {w : List (Option Nat)} {f : Nat → Nat}, (∀ i, some i ∈ w → i < xs.length) → rdW xs w f k = f k := by
  intro w
  induction w with
  | nil => intro f _; rfl
  | cons x w ih =>
    intro f hw
    have ih' := fun f => ih (f := f) (fun k hk => hw k (List.mem_cons_of_mem _ hk))
    cases x with
    | none => exact ih' f
    | some j =>
      have hj := hw j List.mem_cons_self
      show rdW xs w (updN f (ow xs j) _) k = _
      rw [ih', updN_ne _ _ (fun z => hk (by rw [z]; exact ow_mem hj))]
theorem ow_of {xs : List Nat} {k : Nat} (h : k ∈ xs) : ∃ i, i < xs.length ∧ ow xs i = k := by
  obtain ⟨i, hi, he⟩ := List.getElem_of_mem h
  refine ⟨i, hi, ?_⟩
  unfold ow
  rw [List.getD_eq_getElem?_getD, List.getElem?_eq_getElem hi]
  exact he
/-- the planner's way, by its filling -/
def CW (Q C : Nat → Nat) (n N : Nat) (w : List (Option Nat)) : Prop := ∃ d R th, GI Q C d n R th ∧ R ≤ N ∧ (R = N ∨ ∀ j, j < n → ¬ d j < C j) ∧ w = plW n N none (dF0 Q C th) (sF0 Q C th) (R - sumN (dF0 Q C th) n)
theorem CW.ok {Q C : Nat → Nat} {n N : Nat} {w : List (Option Nat)} (h : CW Q C n N w) (hN : 1 ≤ N) (hC : ∀ j, j < n → C j ≤ (N + 1) / 2) : w.length = N ∧ (∀ i, some i ∈ w → i < n) ∧ ∀ i, i < n → cwN i w ≤ C i := by
  obtain ⟨d, R, th, hg, hR, hfull, rfl⟩ := h
  have hR0 : R = 0 → ∀ j, j < n → C j = 0 := by
    intro z j hj
    rcases hfull with z2 | z2
    · omega
    · have h1 := z2 j hj
      have h2 := hg.2.1
      have h3 := sumN_one (s := d) (u := fun _ => 0) (n := n) (fun _ _ => Nat.zero_le _) j hj
      rw [sumN_zero (fun _ _ => rfl)] at h3
      have h3 : 0 + (d j - 0) ≤ sumN d n := h3
      omega
  obtain ⟨he, hp⟩ := plan_gr hg hN hR hfull hC hR0
  refine ⟨Gr_len hp, Gr_lt hp, fun i hi => ?_⟩
  have h1 := (Gr_end hp he).le i hi
  have h1 : 0 + cwN i _ ≤ C i := h1
  omega
/-- the stable's rides, in numbers -/
def CSt (M : Mem) (pl rd : Nat → Nat) : Prop := (∀ k, k < 60 → M 21 k = nI (7 * pl k)) ∧ ∀ k, k < 60 → M 22 k = nI (rd k)
abbrev qF (xs : List Nat) (pl : Nat → Nat) : Nat → Nat := fun j => pl (ow xs j)
abbrev cF (lt : Nat → Int32) (d : Int32) (rd : Nat → Nat) (xs : List Nat) (N : Nat) : Nat → Nat := fun j => min (cpF lt d rd (ow xs j)) ((N + 1) / 2)
def RLS : List Nat := [0, 21, 22, 9, 24, 25, 26, 27, 28, 29]
def RFr (M M' : Mem) : Prop := (∀ a, a ∉ RLS → M' a = M a) ∧ ∀ q, q ≠ 6 → M' 0 q = M 0 q
theorem RFr.trans {M M' M'' : Mem} (h : RFr M M') (h2 : RFr M' M'') : RFr M M'' := ⟨fun a ha => (h2.1 a ha).trans (h.1 a ha), fun q hq => (h2.2 q hq).trans (h.2 q hq)⟩
theorem Frm.rfr {M M' : Mem} (h : Frm PLS M M') : RFr M M' := by
  refine ⟨fun a ha => h a (fun z => ha ?_), fun q _ => congrFun (h 0 (by decide)) q⟩
  have : ∀ x ∈ PLS, x ∈ RLS := by decide
  exact this a z
/-- a player has ridden -/
def CRd (f : Nat → Int32) (lt : Nat → Int32) (dy : Int32) (m N : Nat) (p : Int32) (pl rd : Nat → Nat) (af : Int32) (pl' rd' : Nat → Nat) (af' : Int32) : Prop := ∃ w, CW (qF (ownL f p m) pl) (cF lt dy rd (ownL f p m) N) (ownL f p m).length N w ∧ pl' = rdW (ownL f p m) w pl ∧ rd' = rdW (ownL f p m) w rd ∧ af' = af + nI (noW w)
theorem c_X7_ridePlayer {l : Launch} (hl : l.stackTraces = false) (M : Mem) (o : Ou) {m N : Nat} {pl rd : Nat → Nat} (p : Int32) (hm : M 8 4 = nI m) (h60 : m ≤ 60) (h8 : cntN (M 20) p m ≤ 8) (hS : CSt M pl rd) (bp : ∀ k, k < m → pl k < 10000000) (br : ∀ k, k < m → rd k ≤ 2) (hN : N ≤ 6) (h1 : 1 ≤ N) (hch : M 3 7 = nI N) : Ct l 12 0 119 [.ref 0, .int p] M o (fun v M' o' => v = none ∧ o' = o ∧ RFr M M' ∧ ∃ pl' rd' af', CRd (M 20) (M 23) (M 8 5) m N p pl rd (M 0 6) pl' rd' af' ∧ CSt M' pl' rd' ∧ M' 0 6 = af') nX := by
  refine ct_plain hl ok119 (by decide) (by decide) rfl rfl (by decide) (Nat.le_of_ble_eq_true rfl) (fun G hG => hG 0 _ _ _ _ _ ?_)
  refine clI (c_X6_chukkas hl M o) (by decide) (by decide) ?_
  rw [hch]
  generalize hxs : ownL (M 20) p m = xs
  refine clP (c_X2_plan hl M o (m := m) (N := N) (pl := pl) (rd := rd) (Q := qF xs pl) (C := cF (M 23) (M 8 5) rd xs N) (xs := xs) p hm h60 h8 (fun k hk => hS.1 k (by omega)) bp (fun k hk => ⟨hS.2 k (by omega), br k hk⟩) hN h1 hxs.symm rfl rfl) (by decide) (by decide) (fun v M1 o1 q => ?_) (fun _ _ _ q => q.elim)
  obtain ⟨hv, ho, hF, d, R, th, hg, hR, hfull, hway⟩ := q
  subst hv
  rw [ho]
  generalize hw : plW xs.length N none (dF0 (qF xs pl) (cF (M 23) (M 8 5) rd xs N) th) (sF0 (qF xs pl) (cF (M 23) (M 8 5) rd xs N) th) (R - sumN (dF0 (qF xs pl) (cF (M 23) (M 8 5) rd xs N) th) xs.length) = w at hway
  have hCW : CW (qF xs pl) (cF (M 23) (M 8 5) rd xs N) xs.length N w := ⟨d, R, th, hg, hR, hfull, hw.symm⟩
  obtain ⟨wl, wi, wc⟩ := hCW.ok h1 (fun j _ => Nat.min_le_right _ _)
  have xlt : ∀ j, j < xs.length → ow xs j < m := fun j hj => by have := ow_mem hj; rw [← hxs] at this; exact (ownL_lt (by rw [← hxs]; exact this)).1
  have key : ∀ (suf : List (Option Nat)) k plk rdk afk Mx x, k + suf.length = N → (∀ j, j < suf.length → Mx 29 (k + j) = oW xs (suf.getD j none)) → (∀ i, some i ∈ suf → i < xs.length) → RFr M Mx → CSt Mx plk rdk → Mx 0 6 = afk → rdW xs w pl = rdW xs suf plk → rdW xs w rd = rdW xs suf rdk → M 0 6 + nI (noW w) = afk + nI (noW suf) → G 14 [some (.ref 0), some (.int p), some (.int (nI N)), some (.int (nI k)), x] [] Mx o 0 := by
    intro suf
    induction suf with
    | nil =>
      intro k plk rdk afk Mx x hk hwy hlt hRF hSx haf e1 e2 e3
      have hk : k + 0 = N := hk
      refine hG 14 _ _ _ _ _ ?_
      refine ⟨fun _ => ?_, fun h => absurd (nI_le (by omega) (by omega)) h⟩
      refine hG 38 _ _ _ _ _ ?_
      refine ⟨⟨rfl, rfl, hRF, plk, rdk, afk, ⟨w, by rw [hxs]; exact hCW, by rw [hxs]; exact e1.symm, by rw [hxs]; exact e2.symm, ?_⟩, hSx, haf⟩, Nat.le_refl _⟩
      rw [e3]
      exact (Int32.add_zero afk).symm
    | cons y suf ih =>
      intro k plk rdk afk Mx x hk hwy hlt hRF hSx haf e1 e2 e3
      have hk : k + (suf.length + 1) = N := hk
      have hw0 := hwy 0 (by show 0 < suf.length + 1; omega)
      rw [Nat.add_zero] at hw0
      refine hG 14 _ _ _ _ _ ?_
      refine ⟨fun h => absurd h (nI_ge (a := k) (b := N) (by omega) (by omega)), fun _ => ?_⟩
      refine clI (c_X2_ponyIn hl Mx o (k := k) (by omega)) (by decide) (by decide) ?_
      rw [hw0]
      cases y with
      | none =>
        refine ⟨fun h => absurd rfl h, fun _ => ?_⟩
        refine hG 36 _ _ _ _ _ ?_
        have hnx := ih (k + 1) plk rdk (afk + 1) (mset Mx 0 6 (afk + 1)) (some (.int (-1))) (by omega) (fun j hj => by
          have := hwy (j + 1) (by show j + 1 < suf.length + 1; omega)
          rw [show k + 1 + j = k + (j + 1) by omega]
          exact this) (fun i hi => hlt i (List.mem_cons_of_mem _ hi)) ⟨fun a ha => by
            rw [show mset Mx 0 6 (afk + 1) a = Mx a by simp [mset, show a ≠ 0 from fun z => ha (by rw [z]; decide)]]
            exact hRF.1 a ha, fun q hq => by
            rw [show mset Mx 0 6 (afk + 1) 0 q = Mx 0 q from pk_un hq]
            exact hRF.2 q hq⟩ hSx (mset_same _ _ _ _) e1 e2 (by
            rw [e3, show noW (none :: suf) = noW suf + 1 from rfl, ← nI_1, Int32.add_assoc, Int32.add_comm 1])
        rw [← nI_1] at hnx
        rw [haf]
        exact hnx
      | some i =>
        have hin := hlt i List.mem_cons_self
        have hkm := xlt i hin
        have e6 : oW xs ((some i :: suf).getD 0 none) = nI (ow xs i) := rfl
        rw [e6]
        refine ⟨fun _ => ?_, fun h => absurd h (im1 _ (by omega))⟩
        refine hG 32 _ _ _ _ _ ?_
        refine clV (c_X5_ride hl Mx o (nI (ow xs i)) (vp_in_nI (by omega) (by decide))) (by decide) (by decide) ?_
        rw [nI_clamp (by omega), hSx.1 _ (by omega), hSx.2 _ (by omega)]
        have hnx := ih (k + 1) (updN plk (ow xs i) (plk (ow xs i) + 1)) (updN rdk (ow xs i) (rdk (ow xs i) + 1)) afk (mset (mset Mx 22 (ow xs i) (nI (rdk (ow xs i)) + 1)) 21 (ow xs i) (nI (7 * plk (ow xs i)) + 7)) (some (.int (nI (ow xs i)))) (by omega) (fun j hj => by
          have := hwy (j + 1) (by show j + 1 < suf.length + 1; omega)
          rw [show k + 1 + j = k + (j + 1) by omega]
          exact this) (fun i hi => hlt i (List.mem_cons_of_mem _ hi)) ⟨fun a ha => by
            rw [show mset (mset Mx 22 (ow xs i) (nI (rdk (ow xs i)) + 1)) 21 (ow xs i) (nI (7 * plk (ow xs i)) + 7) a = Mx a by simp [mset, show a ≠ 22 from fun z => ha (by rw [z]; decide), show a ≠ 21 from fun z => ha (by rw [z]; decide)]]
            exact hRF.1 a ha, hRF.2⟩ ⟨fun q hq => by
            show upd (Mx 21) (ow xs i) (nI (7 * plk (ow xs i)) + 7) q = nI (7 * updN plk (ow xs i) (plk (ow xs i) + 1) q)
            by_cases z : q = ow xs i
            · rw [z, pk_us, updN_same, i7, nI_add]; rfl
            · rw [pk_un z, updN_ne _ _ z]; exact hSx.1 q hq, fun q hq => by
            show upd (Mx 22) (ow xs i) (nI (rdk (ow xs i)) + 1) q = nI (updN rdk (ow xs i) (rdk (ow xs i) + 1) q)
            by_cases z : q = ow xs i
            · rw [z, pk_us, updN_same, nI_1]
            · rw [pk_un z, updN_ne _ _ z]; exact hSx.2 q hq⟩ haf e1 e2 e3
        rw [← nI_1] at hnx
        exact hnx
  exact key w 0 pl rd (M 0 6) M1 none (by omega) (fun j hj => by rw [Nat.zero_add]; exact hway j (by omega)) wi hF.rfr ⟨fun k hk => by rw [hF 21 (by decide)]; exact hS.1 k hk, fun k hk => by rw [hF 22 (by decide)]; exact hS.2 k hk⟩ (congrFun (hF 0 (by decide)) 6) rfl rfl rfl
