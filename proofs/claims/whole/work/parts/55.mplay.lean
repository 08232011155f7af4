/-! CONTRACTS: teams ride, a match is played, a mount is told, on the reference's side. -/
def MW (Q cap : Nat → Nat) (n N : Nat) (w : List (Option Nat)) : Prop := ∃ b, wi n cap b ∧ adm n N b ∧ (∀ v, wi n cap v → adm n N v → Lev n Q b v) ∧ Gr n (Tb n N Q cap b) N none (fun _ => 0) w ∧ Ext n (Tb n N Q cap b) N none (fun _ => 0)
abbrev kF (lt : Nat → Int32) (d : Int32) (rd : Nat → Nat) (xs : List Nat) : Nat → Nat := fun j => cpF lt d rd (ow xs j)
theorem MW.ok {Q cap : Nat → Nat} {n N : Nat} {w : List (Option Nat)} (h : MW Q cap n N w) : w.length = N ∧ (∀ i, some i ∈ w → i < n) ∧ ∀ i, i < n → cwN i w ≤ cap i := by
  obtain ⟨b, _, _, _, hg, he⟩ := h
  refine ⟨Gr_len hg, Gr_lt hg, fun i hi => ?_⟩
  have h1 := (Gr_end hg he).1 i hi
  have h1 : 0 + cwN i w ≤ cap i := h1
  omega
theorem cw_mw {lt : Nat → Int32} {d : Int32} {Q rd : Nat → Nat} {xs : List Nat} {N : Nat} {w w' : List (Option Nat)} (hN : 1 ≤ N) (hc : CW Q (cF lt d rd xs N) xs.length N w) (hm : MW Q (kF lt d rd xs) xs.length N w') : w = w' := by
  obtain ⟨dd, R, th, hg, hR, hfull, rfl⟩ := hc
  obtain ⟨b, h1, h2, h3, h4, _⟩ := hm
  exact (same_way hg hN hR hfull (fun j _ => rfl) (fun j _ => cpF_le _ _ _ _) h1 h2 h3 h4).1
def MRd (f : Nat → Int32) (lt : Nat → Int32) (dy : Int32) (m N : Nat) (p : Int32) (pl rd : Nat → Nat) (af : Int32) (pl' rd' : Nat → Nat) (af' : Int32) : Prop := ∃ w, MW (qF (ownL f p m) pl) (kF lt dy rd (ownL f p m)) (ownL f p m).length N w ∧ pl' = rdW (ownL f p m) w pl ∧ rd' = rdW (ownL f p m) w rd ∧ af' = af + nI (noW w)
theorem MRd.bnd {f lt : Nat → Int32} {dy : Int32} {m N : Nat} {p : Int32} {pl rd pl' rd' : Nat → Nat} {af af' : Int32} (h : MRd f lt dy m N p pl rd af pl' rd' af') (br : ∀ k, k < m → rd k ≤ 2) : (∀ k, k < m → pl' k ≤ pl k + 2) ∧ ∀ k, k < m → rd' k ≤ 2 := by
  obtain ⟨w, hw, rfl, rfl, rfl⟩ := h
  obtain ⟨_, wi, wc⟩ := hw.ok
  have hc : ∀ i, i < (ownL f p m).length → cwN i w ≤ 2 - rd (ow (ownL f p m) i) := by
    intro i hi
    refine Nat.le_trans (wc i hi) ?_
    show cpF _ _ _ _ ≤ _
    unfold cpF; split <;> omega
  constructor
  · intro k hk
    by_cases hm : k ∈ ownL f p m
    · obtain ⟨i, hi, rfl⟩ := ow_of hm
      rw [rdW_at wi i hi]
      have := hc i hi
      omega
    · rw [rdW_out hm wi]; omega
  · intro k hk
    have := br k hk
    by_cases hm : k ∈ ownL f p m
    · obtain ⟨i, hi, rfl⟩ := ow_of hm
      rw [rdW_at wi i hi]
      have := hc i hi
      omega
    · rw [rdW_out hm wi]; exact this
def MCh (f lt : Nat → Int32) (dy : Int32) (m N : Nat) : List Int32 → (Nat → Nat) → (Nat → Nat) → Int32 → (Nat → Nat) → (Nat → Nat) → Int32 → Prop
  | [], pl, rd, af, pl', rd', af' => pl' = pl ∧ rd' = rd ∧ af' = af
  | p :: ps, pl, rd, af, pl', rd', af' => ∃ pl1 rd1 af1, MRd f lt dy m N p pl rd af pl1 rd1 af1 ∧ MCh f lt dy m N ps pl1 rd1 af1 pl' rd' af'
/-- both chains end alike -/
theorem cm_same {f lt : Nat → Int32} {dy : Int32} {m N : Nat} (hN : 1 ≤ N) : ∀ {ps : List Int32} {pl rd pl1 rd1 pl2 rd2 : Nat → Nat} {af af1 af2 : Int32}, CCh f lt dy m N ps pl rd af pl1 rd1 af1 → MCh f lt dy m N ps pl rd af pl2 rd2 af2 → pl1 = pl2 ∧ rd1 = rd2 ∧ af1 = af2 := by
  intro ps
  induction ps with
  | nil =>
    intro pl rd pl1 rd1 pl2 rd2 af af1 af2 h h2
    obtain ⟨rfl, rfl, rfl⟩ := h
    obtain ⟨rfl, rfl, rfl⟩ := h2
    exact ⟨rfl, rfl, rfl⟩
  | cons p ps ih =>
    intro pl rd pl1 rd1 pl2 rd2 af af1 af2 h h2
    obtain ⟨a, b, c, ⟨w, hw, rfl, rfl, rfl⟩, h3⟩ := h
    obtain ⟨a', b', c', ⟨w', hw', rfl, rfl, rfl⟩, h4⟩ := h2
    have := cw_mw hN hw hw'
    subst this
    exact ih h3 h4
def MSt (M : Mem) (pl rd : Nat → Nat) : Prop := (∀ k, k < 60 → M 47 k = nI (pl k)) ∧ ∀ k, k < 60 → M 48 k = nI (rd k)
def QRS : List Nat := [11, 47, 48, 50, 51, 52, 53, 54, 55, 56, 57]
def QFr (M M' : Mem) : Prop := (∀ a, a ∉ QRS → M' a = M a) ∧ ∀ q, q ≠ 32 → q ≠ 35 → q ≠ 38 → q ≠ 41 → M' 11 q = M 11 q
theorem QFr.trans {M M' M'' : Mem} (h : QFr M M') (h2 : QFr M' M'') : QFr M M'' := ⟨fun a ha => (h2.1 a ha).trans (h.1 a ha), fun q a b c d => (h2.2 q a b c d).trans (h.2 q a b c d)⟩
theorem MFr.qfr {M M' : Mem} (h : MFr M M') : QFr M M' := by
  refine ⟨fun a ha => h.1 a (fun z => ha ?_), fun q _ a b c => h.2 q a b c⟩
  have : ∀ x ∈ MRS, x ∈ QRS := by decide
  exact this a z
def tmG (M : Mem) (X Y : Nat) : Nat → Int32 := fun q => M 37 (4 * (if q < 4 then X else Y) + q % 4)
theorem c_X8_rides {l : Launch} (hl : l.stackTraces = false) (M : Mem) (o : Ou) {m N X Y : Nat} {pl rd : Nat → Nat} (hX : X < 8) (hY : Y < 8) (hm : M 11 30 = nI m) (h60 : m ≤ 60) (h8 : ∀ p, cntN (M 46) p m ≤ 8) (hS : MSt M pl rd) (bp : ∀ k, k < m → pl k < 8000000) (br : ∀ k, k < m → rd k ≤ 2) (hN : N ≤ 6) (h1 : 1 ≤ N) (hch : M 11 9 = nI N) : Ct l 18 0 159 [.ref 11, .int (nI X), .int (nI Y)] M o (fun v M' o' => v = none ∧ o' = o ∧ QFr M M' ∧ ∃ pl' rd' af', MCh (M 46) (M 49) (M 11 31) m N (seqL (tmG M X Y) 8 0) pl rd (M 11 32) pl' rd' af' ∧ MSt M' pl' rd' ∧ M' 11 32 = af' ∧ (∀ k, k < m → pl' k ≤ pl k + 16) ∧ ∀ k, k < m → rd' k ≤ 2) nX := by
  refine ct_plain hl ok159 (by decide) (by decide) rfl rfl (by decide) (Nat.le_of_ble_eq_true rfl) (fun G hG => hG 0 _ _ _ _ _ ?_)
  have key : ∀ q j Mx plj rdj afj x, j + q = 8 → QFr M Mx → MSt Mx plj rdj → Mx 11 32 = afj → (∀ k, k < m → plj k ≤ pl k + 2 * j) → (∀ k, k < m → rdj k ≤ 2) → (∀ pl' rd' af', MCh (M 46) (M 49) (M 11 31) m N (seqL (tmG M X Y) q j) plj rdj afj pl' rd' af' → MCh (M 46) (M 49) (M 11 31) m N (seqL (tmG M X Y) 8 0) pl rd (M 11 32) pl' rd' af') → G 3 [some (.ref 11), some (.int (nI X)), some (.int (nI Y)), some (.int (nI j)), x] [] Mx o 0 := by
    intro q
    induction q with
    | zero =>
      intro j Mx plj rdj afj x hj hF hSx haf b1 b2 hcl
      refine hG 3 _ _ _ _ _ ?_
      refine ⟨fun _ => ?_, fun h => absurd (by rw [show j = 8 by omega]; decide) h⟩
      refine hG 76 _ _ _ _ _ ?_
      refine ⟨⟨rfl, rfl, hF, plj, rdj, afj, hcl _ _ _ ⟨rfl, rfl, rfl⟩, hSx, haf, fun k hk => ?_, b2⟩, Nat.le_refl _⟩
      have := b1 k hk; omega
    | succ q ih =>
      intro j Mx plj rdj afj x hj hF hSx haf b1 b2 hcl
      have e1 : Mx 37 = M 37 := hF.1 _ (by decide)
      have e2 : Mx 46 = M 46 := hF.1 _ (by decide)
      have e3 : Mx 49 = M 49 := hF.1 _ (by decide)
      have e4 : ∀ q, q ≠ 32 → q ≠ 35 → q ≠ 38 → q ≠ 41 → Mx 11 q = M 11 q := hF.2
      generalize hp : tmG M X Y j = p
      generalize hxs : ownL (M 46) p m = xs
      -- from the search on
      have fin : ∀ y, y = p → XS l 18 0 e159 (fun v M' o' => v = none ∧ o' = o ∧ QFr M M' ∧ ∃ pl' rd' af', MCh (M 46) (M 49) (M 11 31) m N (seqL (tmG M X Y) 8 0) pl rd (M 11 32) pl' rd' af' ∧ MSt M' pl' rd' ∧ M' 11 32 = af' ∧ (∀ k, k < m → pl' k ≤ pl k + 16) ∧ ∀ k, k < m → rd' k ≤ 2) nX G 22 [some (.ref 11), some (.int (nI X)), some (.int (nI Y)), some (.int (nI j)), x] [.int y, .ref 11] Mx o 0 := by
        intro y hy
        subst hy
        have hmo := c_X8_mounts hl Mx o (m := m) (N := N) (pl := plj) (rd := rdj) (Q := qF xs plj) (cap := kF (M 49) (M 11 31) rdj xs) (xs := xs) y ((e4 30 (by decide) (by decide) (by decide) (by decide)).trans hm) h60 (by rw [e2]; exact h8 y) (fun k hk => hSx.1 k (by omega)) (fun k hk => by have := b1 k hk; have := bp k hk; omega) (fun k hk => ⟨hSx.2 k (by omega), b2 k hk⟩) hN h1 (by rw [e2]; exact hxs.symm) rfl (by rw [e3, e4 31 (by decide) (by decide) (by decide) (by decide)])
        rw [← hch, ← e4 9 (by decide) (by decide) (by decide) (by decide)] at hmo
        refine clP hmo (by decide) (by decide) (fun v M1 o1 q => ?_) (fun _ _ _ q => q.elim)
        obtain ⟨hv, ho, hF1, hown, b, w, w1, w2, w3, w4, w5, hrd⟩ := q
        subst hv
        rw [ho]
        have hMW : MW (qF xs plj) (kF (M 49) (M 11 31) rdj xs) xs.length N w := ⟨b, w1, w2, w3, w4, w5⟩
        obtain ⟨wl, wi, wc⟩ := hMW.ok
        have xlt : ∀ j, j < xs.length → ow xs j < m := fun j hj => by have := ow_mem hj; rw [← hxs] at this; exact (ownL_lt (by rw [← hxs]; exact this)).1
        have x8 : xs.length ≤ 8 := by rw [← hxs, ownL_len]; exact h8 y
        have inner : ∀ (suf : List (Option Nat)) k plk rdk afk My, k + suf.length = N → (∀ i, i < suf.length → My 56 (k + i) = oI (suf.getD i none)) → (∀ i, some i ∈ suf → i < xs.length) → QFr M My → Nv (My 50) (ow xs) xs.length → MSt My plk rdk → My 11 32 = afk → rdW xs w plj = rdW xs suf plk → rdW xs w rdj = rdW xs suf rdk → afj + nI (noW w) = afk + nI (noW suf) → G 28 [some (.ref 11), some (.int (nI X)), some (.int (nI Y)), some (.int (nI j)), some (.int (nI k))] [] My o 0 := by
          intro suf
          induction suf with
          | nil =>
            intro k plk rdk afk My hk hwy hlt hRF ho2 hSy haf2 f1 f2 f3
            have hk : k + 0 = N := hk
            refine hG 28 _ _ _ _ _ ?_
            refine ⟨fun _ => ?_, fun h => absurd (by rw [(hRF.2 9 (by decide) (by decide) (by decide) (by decide)).trans hch]; exact nI_le (by omega) (by omega)) h⟩
            refine hG 74 _ _ _ _ _ ?_
            have hR : MRd (M 46) (M 49) (M 11 31) m N y plj rdj afj plk rdk afk := ⟨w, by rw [hxs]; exact hMW, by rw [hxs]; exact f1.symm, by rw [hxs]; exact f2.symm, by rw [f3]; exact (Int32.add_zero afk).symm⟩
            obtain ⟨b3, b4⟩ := hR.bnd b2
            have hnx := ih (j + 1) My plk rdk afk (some (.int (nI k))) (by omega) hRF hSy haf2 (fun k hk => by have := b1 k hk; have := b3 k hk; omega) b4 (fun pl' rd' af' hc => hcl pl' rd' af' ⟨plk, rdk, afk, by rw [hp]; exact hR, hc⟩)
            rw [← nI_1] at hnx
            exact hnx
          | cons z suf ihs =>
            intro k plk rdk afk My hk hwy hlt hRF ho2 hSy haf2 f1 f2 f3
            have hk : k + (suf.length + 1) = N := hk
            have hw0 := hwy 0 (by show 0 < suf.length + 1; omega)
            rw [Nat.add_zero] at hw0
            have k6 : vp_in (nI k) 6 := vp_in_nI (by omega) (by decide)
            have ek : (nI k).toNatClampNeg = k := nI_clamp (by omega)
            refine hG 28 _ _ _ _ _ ?_
            refine ⟨fun h => absurd (by rw [(hRF.2 9 (by decide) (by decide) (by decide) (by decide)).trans hch] at h; exact h) (nI_ge (a := k) (b := N) (by omega) (by omega)), fun _ => ⟨k6, ?_⟩⟩
            rw [ek, hw0]
            cases z with
            | none =>
              refine ⟨fun h => absurd h (show ¬ (0 : Int32) ≤ -1 by decide), fun _ => ?_⟩
              refine hG 72 _ _ _ _ _ ?_
              rw [haf2]
              have hnx := ihs (k + 1) plk rdk (afk + 1) (mset My 11 32 (afk + 1)) (by omega) (fun i hi => by
                have := hwy (i + 1) (by show i + 1 < suf.length + 1; omega)
                rw [show k + 1 + i = k + (i + 1) by omega]
                exact this) (fun i hi => hlt i (List.mem_cons_of_mem _ hi)) ⟨fun a ha => by
                  rw [show mset My 11 32 (afk + 1) a = My a by simp [mset, show a ≠ 11 from fun z => ha (by rw [z]; decide)]]
                  exact hRF.1 a ha, fun q q1 q2 q3 q4 => by
                  rw [show mset My 11 32 (afk + 1) 11 q = My 11 q from pk_un q1]
                  exact hRF.2 q q1 q2 q3 q4⟩ ho2 hSy (mset_same _ _ _ _) f1 f2 (by
                  rw [f3, show noW (none :: suf) = noW suf + 1 from rfl, ← nI_1, Int32.add_assoc, Int32.add_comm 1])
              rw [← nI_1] at hnx
              exact hnx
            | some i =>
              have hin := hlt i List.mem_cons_self
              have hkm := xlt i hin
              have e6 : oI ((some i :: suf).getD 0 none) = nI i := rfl
              rw [e6] at hw0 ⊢
              have ei : (nI i).toNatClampNeg = i := nI_clamp (by omega)
              have ew : (nI (ow xs i)).toNatClampNeg = ow xs i := nI_clamp (by omega)
              have i8 : vp_in (nI i) 8 := vp_in_nI (by omega) (by decide)
              have w60 : vp_in (nI (ow xs i)) 60 := vp_in_nI (by omega) (by decide)
              refine ⟨fun _ => ?_, fun h => absurd (nI_pos' (by omega)) h⟩
              refine hG 44 _ _ _ _ _ ?_
              refine ⟨k6, ?_⟩
              rw [ek, hw0]
              refine ⟨i8, ?_⟩
              rw [ei, ho2 i hin]
              refine ⟨w60, w60, ?_⟩
              rw [ew, hSy.1 _ (by omega)]
              refine ⟨k6, ?_⟩
              rw [ek, show mset My 47 (ow xs i) (nI (plk (ow xs i)) + 1) 56 k = nI i from hw0]
              refine ⟨i8, ?_⟩
              rw [ei, show mset My 47 (ow xs i) (nI (plk (ow xs i)) + 1) 50 i = nI (ow xs i) from ho2 i hin]
              refine ⟨w60, w60, ?_⟩
              rw [ew, show mset My 47 (ow xs i) (nI (plk (ow xs i)) + 1) 48 (ow xs i) = nI (rdk (ow xs i)) from hSy.2 _ (by omega)]
              have hnx := ihs (k + 1) (updN plk (ow xs i) (plk (ow xs i) + 1)) (updN rdk (ow xs i) (rdk (ow xs i) + 1)) afk (mset (mset My 47 (ow xs i) (nI (plk (ow xs i)) + 1)) 48 (ow xs i) (nI (rdk (ow xs i)) + 1)) (by omega) (fun i hi => by
                have := hwy (i + 1) (by show i + 1 < suf.length + 1; omega)
                rw [show k + 1 + i = k + (i + 1) by omega]
                exact this) (fun i hi => hlt i (List.mem_cons_of_mem _ hi)) ⟨fun a ha => by
                  rw [show mset (mset My 47 (ow xs i) (nI (plk (ow xs i)) + 1)) 48 (ow xs i) (nI (rdk (ow xs i)) + 1) a = My a by simp [mset, show a ≠ 47 from fun z => ha (by rw [z]; decide), show a ≠ 48 from fun z => ha (by rw [z]; decide)]]
                  exact hRF.1 a ha, hRF.2⟩ ho2 ⟨fun q hq => by
                  show upd (My 47) (ow xs i) (nI (plk (ow xs i)) + 1) q = nI (updN plk (ow xs i) (plk (ow xs i) + 1) q)
                  by_cases z : q = ow xs i
                  · rw [z, pk_us, updN_same, nI_1]
                  · rw [pk_un z, updN_ne _ _ z]; exact hSy.1 q hq, fun q hq => by
                  show upd (My 48) (ow xs i) (nI (rdk (ow xs i)) + 1) q = nI (updN rdk (ow xs i) (rdk (ow xs i) + 1) q)
                  by_cases z : q = ow xs i
                  · rw [z, pk_us, updN_same, nI_1]
                  · rw [pk_un z, updN_ne _ _ z]; exact hSy.2 q hq⟩ haf2 f1 f2 f3
              rw [← nI_1] at hnx
              exact hnx
        have hF1q := hF1.qfr
        exact inner w 0 plj rdj afj M1 (by omega) (fun i hi => by rw [Nat.zero_add]; exact hrd i (by omega)) wi (hF.trans hF1q) hown ⟨fun k hk => by rw [hF1.1 47 (by decide)]; exact hSx.1 k hk, fun k hk => by rw [hF1.1 48 (by decide)]; exact hSx.2 k hk⟩ ((hF1.2 32 (by decide) (by decide) (by decide)).trans haf) rfl rfl rfl
      have er : nI j - nI j / 4 * 4 = nI (j % 4) := by rw [i4]; exact pk_rem (by omega) (by decide) (by decide)
      refine hG 3 _ _ _ _ _ ?_
      refine ⟨fun h => absurd h (nI_ge (a := j) (b := 8) (by omega) (by decide)), fun _ => ⟨fun h => ?_, fun h => ?_⟩⟩
      · have h : 4 ≤ j := (nI_leI (a := 4) (by decide) (by omega)).mp h
        have e5 : (4 : Int32) * nI Y + (nI j - nI j / 4 * 4) = nI (4 * Y + j % 4) := by rw [er, i4, pk_mul, nI_add]
        refine hG 15 _ _ _ _ _ ?_
        refine ⟨by decide, by rw [e5]; exact vp_in_nI (show 4 * Y + j % 4 < 32 by omega) (by decide), ?_⟩
        exact fin _ (by rw [e5, nI_clamp (by omega), e1, ← hp]; unfold tmG; rw [if_neg (by omega)])
      · have h : j < 4 := Nat.not_le.mp (fun z => h (nI_le (a := 4) z (by omega)))
        have e5 : (4 : Int32) * nI X + (nI j - nI j / 4 * 4) = nI (4 * X + j % 4) := by rw [er, i4, pk_mul, nI_add]
        refine hG 16 _ _ _ _ _ ?_
        refine ⟨by decide, by rw [e5]; exact vp_in_nI (show 4 * X + j % 4 < 32 by omega) (by decide), ?_⟩
        exact fin _ (by rw [e5, nI_clamp (by omega), e1, ← hp]; unfold tmG; rw [if_pos h])
  exact key 8 0 M pl rd _ none (by omega) ⟨fun _ _ => rfl, fun _ _ _ _ _ => rfl⟩ hS rfl (fun k _ => by omega) br (fun _ _ _ h => h)
