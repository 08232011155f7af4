/-! CONTRACTS: teams ride, a match is played, a mount is told, on the planner's side. -/
theorem CRd.bnd {f lt : Nat → Int32} {dy : Int32} {m N : Nat} {p : Int32} {pl rd pl' rd' : Nat → Nat} {af af' : Int32} (h : CRd f lt dy m N p pl rd af pl' rd' af') (hN : 1 ≤ N) (br : ∀ k, k < m → rd k ≤ 2) : (∀ k, k < m → pl' k ≤ pl k + 2) ∧ ∀ k, k < m → rd' k ≤ 2 := by
  obtain ⟨w, hw, rfl, rfl, rfl⟩ := h
  obtain ⟨_, wi, wc⟩ := hw.ok hN (fun j _ => Nat.min_le_right _ _)
  have hc : ∀ i, i < (ownL f p m).length → cwN i w ≤ 2 - rd (ow (ownL f p m) i) := by
    intro i hi
    refine Nat.le_trans (wc i hi) (Nat.le_trans (Nat.min_le_left _ _) ?_)
    unfold cpF; split <;> omega
  constructor
  · intro k hk
    by_cases hm : k ∈ ownL f p m
    · obtain ⟨i, hi, rfl⟩ := ow_of hm
      rw [rdW_at wi i hi]
      have := hc i hi
      omega
    · rw [rdW_out hm wi]; omega
  · intro k hk
    have := br k hk
    by_cases hm : k ∈ ownL f p m
    · obtain ⟨i, hi, rfl⟩ := ow_of hm
      rw [rdW_at wi i hi]
      have := hc i hi
      omega
    · rw [rdW_out hm wi]; exact this
def CCh (f lt : Nat → Int32) (dy : Int32) (m N : Nat) : List Int32 → (Nat → Nat) → (Nat → Nat) → Int32 → (Nat → Nat) → (Nat → Nat) → Int32 → Prop
  | [], pl, rd, af, pl', rd', af' => pl' = pl ∧ rd' = rd ∧ af' = af
  | p :: ps, pl, rd, af, pl', rd', af' => ∃ pl1 rd1 af1, CRd f lt dy m N p pl rd af pl1 rd1 af1 ∧ CCh f lt dy m N ps pl1 rd1 af1 pl' rd' af'
theorem CCh.app {f lt : Nat → Int32} {dy : Int32} {m N : Nat} : ∀ {ps qs : List Int32} {pl rd pl1 rd1 pl' rd' : Nat → Nat} {af af1 af' : Int32}, CCh f lt dy m N ps pl rd af pl1 rd1 af1 → CCh f lt dy m N qs pl1 rd1 af1 pl' rd' af' → CCh f lt dy m N (ps ++ qs) pl rd af pl' rd' af' := by
  intro ps
  induction ps with
  | nil =>
    intro qs pl rd pl1 rd1 pl' rd' af af1 af' h h2
    obtain ⟨rfl, rfl, rfl⟩ := h
    exact h2
  | cons p ps ih =>
    intro qs pl rd pl1 rd1 pl' rd' af af1 af' h h2
    obtain ⟨pl2, rd2, af2, h3, h4⟩ := h
    exact ⟨pl2, rd2, af2, h3, ih h4 h2⟩
def seqL (g : Nat → Int32) : Nat → Nat → List Int32
  | 0, _ => []
  | m + 1, j => g j :: seqL g m (j + 1)
theorem c_X7_rideTeam {l : Launch} (hl : l.stackTraces = false) (M : Mem) (o : Ou) {m N T : Nat} {pl rd : Nat → Nat} (hT : T < 8) (hm : M 8 4 = nI m) (h60 : m ≤ 60) (h8 : ∀ p, cntN (M 20) p m ≤ 8) (hS : CSt M pl rd) (bp : ∀ k, k < m → pl k < 9000000) (br : ∀ k, k < m → rd k ≤ 2) (hN : N ≤ 6) (h1 : 1 ≤ N) (hch : M 3 7 = nI N) : Ct l 13 0 118 [.ref 0, .int (nI T)] M o (fun v M' o' => v = none ∧ o' = o ∧ RFr M M' ∧ ∃ pl' rd' af', CCh (M 20) (M 23) (M 8 5) m N (seqL (fun q => M 14 (4 * T + q)) 4 0) pl rd (M 0 6) pl' rd' af' ∧ CSt M' pl' rd' ∧ M' 0 6 = af' ∧ (∀ k, k < m → pl' k ≤ pl k + 8) ∧ ∀ k, k < m → rd' k ≤ 2) nX := by
  refine ct_plain hl ok118 (by decide) (by decide) rfl rfl (by decide) (Nat.le_of_ble_eq_true rfl) (fun G hG => hG 0 _ _ _ _ _ ?_)
  have key : ∀ q j Mx plj rdj afj, j + q = 4 → RFr M Mx → CSt Mx plj rdj → Mx 0 6 = afj → (∀ k, k < m → plj k ≤ pl k + 2 * j) → (∀ k, k < m → rdj k ≤ 2) → (∀ pl' rd' af', CCh (M 20) (M 23) (M 8 5) m N (seqL (fun q => M 14 (4 * T + q)) q j) plj rdj afj pl' rd' af' → CCh (M 20) (M 23) (M 8 5) m N (seqL (fun q => M 14 (4 * T + q)) 4 0) pl rd (M 0 6) pl' rd' af') → G 3 [some (.ref 0), some (.int (nI T)), some (.int (nI j))] [] Mx o 0 := by
    intro q
    induction q with
    | zero =>
      intro j Mx plj rdj afj hj hF hSx haf b1 b2 hcl
      refine hG 3 _ _ _ _ _ ?_
      refine ⟨fun _ => ?_, fun h => absurd (by rw [show j = 4 by omega]; decide) h⟩
      refine hG 15 _ _ _ _ _ ?_
      refine ⟨⟨rfl, rfl, hF, plj, rdj, afj, hcl _ _ _ ⟨rfl, rfl, rfl⟩, hSx, haf, fun k hk => ?_, b2⟩, Nat.le_refl _⟩
      have := b1 k hk; omega
    | succ q ih =>
      intro j Mx plj rdj afj hj hF hSx haf b1 b2 hcl
      refine hG 3 _ _ _ _ _ ?_
      refine ⟨fun h => absurd h (nI_ge (a := j) (b := 4) (by omega) (by decide)), fun _ => ?_⟩
      refine clI (c_X3_memberOf hl Mx o hT (show j < 4 by omega)) (by decide) (by decide) ?_
      have e1 : Mx 14 = M 14 := hF.1 _ (by decide)
      have e2 : Mx 20 = M 20 := hF.1 _ (by decide)
      have e3 : Mx 23 = M 23 := hF.1 _ (by decide)
      have e4 : Mx 8 = M 8 := hF.1 _ (by decide)
      have e5 : Mx 3 = M 3 := hF.1 _ (by decide)
      rw [e1]
      refine clP (c_X7_ridePlayer hl Mx o (m := m) (N := N) (pl := plj) (rd := rdj) (M 14 (4 * T + j)) ((congrFun e4 _).trans hm) h60 (by rw [e2]; exact h8 _) hSx (fun k hk => by have := b1 k hk; have := bp k hk; omega) b2 hN h1 ((congrFun e5 _).trans hch)) (by decide) (by decide) (fun v M1 o1 q => ?_) (fun _ _ _ q => q.elim)
      obtain ⟨hv, ho, hF1, pl1, rd1, af1, hR, hS1, haf1⟩ := q
      subst hv
      rw [ho]
      rw [e2, e3, congrFun e4, haf] at hR
      obtain ⟨b3, b4⟩ := hR.bnd h1 b2
      have hnx := ih (j + 1) M1 pl1 rd1 af1 (by omega) (hF.trans hF1) hS1 haf1 (fun k hk => by have := b1 k hk; have := b3 k hk; omega) b4 (fun pl' rd' af' hc => hcl pl' rd' af' ⟨pl1, rd1, af1, hR, hc⟩)
      rw [← nI_1] at hnx
      exact hnx
  exact key 4 0 M pl rd _ (by omega) ⟨fun _ _ => rfl, fun _ _ => rfl⟩ hS rfl (fun k _ => by omega) br (fun _ _ _ h => h)
/-- the end of a match, as a relation -/
def endE (M : Mem) (W H L : List Int32) (t : Int32) (M' : Mem) : Prop := (¬ snF W H (L.length + 1) 0 = -1 ∧ M' = eM M L.length t) ∨ (snF W H (L.length + 1) 0 = -1 ∧ ∃ f g, M' = eR (eM M L.length t) f g (hN W H (L ++ [t])).length (wN W (L ++ [t])).length (if wnF (M 3 5) (wN W (L ++ [t])) (hN W H (L ++ [t])) = true then M 3 9 else M 3 9 + 1) ∧ Lst f (nI (hN W H (L ++ [t])).length) (hN W H (L ++ [t])) ∧ Lst g (nI (wN W (L ++ [t])).length) (wN W (L ++ [t])))
def kPy (a b x y : Int32) : Nat := cond (wiF a 0 50 && wiF b 0 50) (if x = -1 ∨ y = -1 then 2 else 0) 1
/-- the two scores -/
def scF (h m : Nat → Int32) (c g x y : Int32) : Int32 := 2 * g + hvF (sum4 h m y.toNatClampNeg - sum4 h m x.toNatClampNeg) c
def pyV (v w x y : Int32) : Int32 := if v = w then -1 else if v ≤ w then y else x
def pyR (M : Mem) (W H L : List Int32) (m N : Nat) (pl rd : Nat → Nat) (x y v w : Int32) (k : Nat) : Mem → Prop := fun M' => if k = 0 ∧ ¬ v = w then ∃ M1 pl' rd' af', RFr M M1 ∧ CCh (M 20) (M 23) (M 8 5) m N (seqL (fun q => M 14 (4 * x.toNatClampNeg + q)) 4 0 ++ seqL (fun q => M 14 (4 * y.toNatClampNeg + q)) 4 0) pl rd (M 0 6) pl' rd' af' ∧ CSt M1 pl' rd' ∧ M1 0 6 = af' ∧ (∀ k, k < m → pl' k ≤ pl k + 16) ∧ (∀ k, k < m → rd' k ≤ 2) ∧ endE M1 W H L (if v ≤ w then x else y) M' else M' = M
theorem c_X7_play {l : Launch} (hl : l.stackTraces = false) (M : Mem) (o : Ou) {W H L : List Int32} {m N : Nat} {pl rd : Nat → Nat} {x y v w : Int32} (a b : Int32) (hz : bz (M 3 5)) (hW : rl M 5 W) (hH : rl M 6 H) (hL : rl M 7 L) (hx : x = snF W H L.length 0) (hy : y = snF W H L.length 1) (h0 : tmOk M x) (h1 : tmOk M y) (hv : v = scF (M 12) (M 14) (M 3 7) a x y) (hw : w = scF (M 12) (M 14) (M 3 7) b y x) (hm : M 8 4 = nI m) (h60 : m ≤ 60) (h8 : ∀ p, cntN (M 20) p m ≤ 8) (hS : CSt M pl rd) (bp : ∀ k, k < m → pl k < 8000000) (br : ∀ k, k < m → rd k ≤ 2) (hN : ¬ x = -1 → 1 ≤ N ∧ N ≤ 6 ∧ M 3 7 = nI N ∧ L.length < 8 ∧ (hN W H (L ++ [x])).length ≤ 8 ∧ (Jvm.Pilot.CPoloSeasonLaw_law_r5675_952e98.hN W H (L ++ [y])).length ≤ 8) : Ct l 20 8 95 [.ref 0, .int a, .int b] M o (rF (kPy a b x y) (pyV v w x y) (pyR M W H L m N pl rd x y v w (kPy a b x y)) o) (xF IAE ISE (kPy a b x y) (pyR M W H L m N pl rd x y v w (kPy a b x y)) o) := by
  refine ct_plain hl ok95 (by decide) (by decide) rfl rfl (by decide) (Nat.le_of_ble_eq_true rfl) (fun G hG => hG 0 _ _ _ _ _ ?_)
  have no : ∀ {k : Nat}, ¬ k = 0 → pyR M W H L m N pl rd x y v w k M := fun hk => by unfold pyR; rw [if_neg (fun z => hk z.1)]
  refine clI (c_X7_within hl M o _ _ _) (by decide) (by decide) ⟨fun h => ?_, fun h => clI (c_X7_within hl M o _ _ _) (by decide) (by decide) ⟨fun h2 => ?_, fun h2 => ?_⟩⟩
  · refine hG 10 _ _ _ _ _ ?_
    have hk : kPy a b x y = 1 := by unfold kPy; rw [cond_z h]; rfl
    exact ⟨⟨Or.inl ⟨hk, rfl⟩, no (by rw [hk]; decide), rfl⟩, by decide⟩
  · refine hG 15 _ _ _ _ _ ?_
    have hin : (wiF a 0 50 && wiF b 0 50) = true := by rw [cond_n h, cond_n h2]; rfl
    have hs0 := c_X6_sideOfNext hl M o (w := 0) hW hH hL (by decide)
    have hs1 := c_X6_sideOfNext hl M o (w := 1) hW hH hL (by decide)
    rw [← hx] at hs0
    rw [← hy] at hs1
    refine clI hs0 (by decide) (by decide) (clI hs1 (by decide) (by decide) ⟨fun h3 => ?_, fun h3 => ⟨fun h4 => ?_, fun h4 => ?_⟩⟩)
    · refine hG 31 _ _ _ _ _ ?_
      have hk : kPy a b x y = 2 := by unfold kPy; rw [hin, if_pos (Or.inl h3)]; rfl
      exact ⟨⟨Or.inr ⟨hk, rfl⟩, no (by rw [hk]; decide), rfl⟩, by decide⟩
    · refine hG 36 _ _ _ _ _ ?_
      have hk : kPy a b x y = 0 := by unfold kPy; rw [hin, if_neg (fun z => z.elim h3 h4)]; rfl
      obtain ⟨n1, n6, hch, l8, t1, t2⟩ := hN h3
      obtain ⟨X, hX, hxX, mX⟩ := h0.resolve_left h3
      obtain ⟨Y, hY, hyY, mY⟩ := h1.resolve_left h4
      have hc1 := c_X7_halvesFor hl M o hX hY mX mY
      have hc2 := c_X7_halvesFor hl M o hY hX mY mX
      rw [← hxX, ← hyY] at hc1 hc2
      have hev : 2 * a + hvF (sum4 (M 12) (M 14) Y - sum4 (M 12) (M 14) X) (M 3 7) = v := by
        rw [hv, hxX, hyY]; unfold scF; rw [nI_clamp (by omega), nI_clamp (by omega)]
      have hew : 2 * b + hvF (sum4 (M 12) (M 14) X - sum4 (M 12) (M 14) Y) (M 3 7) = w := by
        rw [hw, hxX, hyY]; unfold scF; rw [nI_clamp (by omega), nI_clamp (by omega)]
      refine clI hc1 (by decide) (by decide) (clI hc2 (by decide) (by decide) ?_)
      have hcx : (nI X).toNatClampNeg = X := nI_clamp (by omega)
      have hcy : (nI Y).toNatClampNeg = Y := nI_clamp (by omega)
      refine ⟨fun h5 => ?_, fun h5 => ?_⟩
      · rw [hev, hew] at h5 ⊢
        refine hG 59 _ _ _ _ _ ?_
        have hr1 := c_X7_rideTeam hl M o (m := m) (N := N) (T := X) (pl := pl) (rd := rd) hX hm h60 h8 hS (fun k hk => by have := bp k hk; omega) br n6 n1 hch
        rw [← hxX] at hr1
        refine clP hr1 (by decide) (by decide) (fun v1 M1 o1 q => ?_) (fun _ _ _ q => q.elim)
        obtain ⟨hv1, ho1, hF1, pl1, rd1, af1, hC1, hS1, haf1, bp1, br1⟩ := q
        subst hv1
        rw [ho1]
        have e1 : M1 14 = M 14 := hF1.1 _ (by decide)
        have e2 : M1 20 = M 20 := hF1.1 _ (by decide)
        have e3 : M1 23 = M 23 := hF1.1 _ (by decide)
        have e4 : M1 8 = M 8 := hF1.1 _ (by decide)
        have e5 : M1 3 = M 3 := hF1.1 _ (by decide)
        have hr2 := c_X7_rideTeam hl M1 o (m := m) (N := N) (T := Y) (pl := pl1) (rd := rd1) hY ((congrFun e4 _).trans hm) h60 (by rw [e2]; exact h8) hS1 (fun k hk => by have := bp k hk; have := bp1 k hk; omega) br1 n6 n1 ((congrFun e5 _).trans hch)
        rw [← hyY] at hr2
        refine clP hr2 (by decide) (by decide) (fun v2 M2 o2 q => ?_) (fun _ _ _ q => q.elim)
        obtain ⟨hv2, ho2, hF2, pl2, rd2, af2, hC2, hS2, haf2, bp2, br2⟩ := q
        subst hv2
        rw [ho2]
        rw [e1, e2, e3, congrFun e4, haf1] at hC2
        have hF := hF1.trans hF2
        have e6 : M2 3 = M 3 := hF.1 _ (by decide)
        have hW2 : rl M2 5 W := by unfold rl; rw [hF.1 (5 + 12) (by decide), hF.1 5 (by decide)]; exact hW
        have hH2 : rl M2 6 H := by unfold rl; rw [hF.1 (6 + 12) (by decide), hF.1 6 (by decide)]; exact hH
        have hL2 : rl M2 7 L := by unfold rl; rw [hF.1 (7 + 12) (by decide), hF.1 7 (by decide)]; exact hL
        have hz2 : bz (M2 3 5) := by rw [congrFun e6]; exact hz
        have fin : ∀ (t : Int32) M3, t = (if v ≤ w then x else y) → endE M2 W H L t M3 → pyR M W H L m N pl rd x y v w (kPy a b x y) M3 := by
          intro t M3 ht he
          unfold pyR
          rw [if_pos ⟨hk, h5⟩]
          refine ⟨M2, pl2, rd2, af2, hF, ?_, hS2, haf2, fun k hk => ?_, br2, by rw [← ht]; exact he⟩
          · rw [hxX, hyY, hcx, hcy]
            exact hC1.app hC2
          · have := bp1 k hk; have := bp2 k hk; omega
        refine ⟨fun h6 => ?_, fun h6 => ?_⟩
        · refine hG 70 _ _ _ _ _ ?_
          refine ⟨fun _ => ?_, fun z => absurd rfl z⟩
          refine hG 78 _ _ _ _ _ ?_
          refine clP (c_X6_endMatch hl M2 o (W := W) (H := H) (L := L) x hz2 hW2 hH2 hL2 l8 t1) (by decide) (by decide) (fun v3 M3 o3 q => ?_) (fun _ _ _ q => q.elim)
          obtain ⟨hv3, ho3, he⟩ := q
          subst hv3
          rw [ho3]
          refine ⟨fun _ => ?_, fun z => absurd rfl z⟩
          refine hG 84 _ _ _ _ _ ?_
          exact ⟨⟨hk, by unfold pyV; rw [if_neg h5, if_pos h6], fin x M3 (by rw [if_pos h6]) he, rfl⟩, by decide⟩
        · refine hG 71 _ _ _ _ _ ?_
          refine ⟨fun z => absurd z (by decide), fun _ => ?_⟩
          refine hG 79 _ _ _ _ _ ?_
          refine clP (c_X6_endMatch hl M2 o (W := W) (H := H) (L := L) y hz2 hW2 hH2 hL2 l8 t2) (by decide) (by decide) (fun v3 M3 o3 q => ?_) (fun _ _ _ q => q.elim)
          obtain ⟨hv3, ho3, he⟩ := q
          subst hv3
          rw [ho3]
          refine ⟨fun z => absurd z (by decide), fun _ => ?_⟩
          refine hG 85 _ _ _ _ _ ?_
          exact ⟨⟨hk, by unfold pyV; rw [if_neg h5, if_neg h6], fin y M3 (by rw [if_neg h6]) he, rfl⟩, by decide⟩
      · rw [hev, hew] at h5
        refine ⟨⟨hk, by unfold pyV; rw [if_pos h5], ?_, rfl⟩, by decide⟩
        unfold pyR; rw [if_neg (fun z => z.2 h5)]
    · have hk : kPy a b x y = 2 := by unfold kPy; rw [hin, if_pos (Or.inr h4)]; rfl
      exact ⟨⟨Or.inr ⟨hk, rfl⟩, no (by rw [hk]; decide), rfl⟩, by decide⟩
  · have hk : kPy a b x y = 1 := by unfold kPy; rw [cond_z h2, Bool.and_false]; rfl
    exact ⟨⟨Or.inl ⟨hk, rfl⟩, no (by rw [hk]; decide), rfl⟩, by decide⟩
def kMo (p c i : Int32) (n : Nat) : Nat := cond (inB p n) (cond (wiF c 1 6 && wiF i 0 (c - 1)) 0 2) 1
def moR (M : Mem) (m : Nat) (pl rd : Nat → Nat) (p c i r : Int32) (M' : Mem) : Prop := Frm PLS M M' ∧ ∃ w, CW (qF (ownL (M 20) p m) pl) (cF (M 23) (M 8 5) rd (ownL (M 20) p m) c.toNatClampNeg) (ownL (M 20) p m).length c.toNatClampNeg w ∧ r = oW (ownL (M 20) p m) (w.getD i.toNatClampNeg none)
theorem wi16 {c : Int32} (h : wiF c 1 6 = true) : ∃ N, 1 ≤ N ∧ N ≤ 6 ∧ c = nI N := by
  unfold wiF at h
  simp only [Bool.and_eq_true, decide_eq_true_eq] at h
  have h0 : ¬ c < 0 := fun z => by
    have := Int32.lt_of_lt_of_le z (show (0 : Int32) ≤ 1 by decide)
    exact absurd h.1 (Int32.not_le.mpr this)
  obtain ⟨N, hN, rfl⟩ := nI_of h0
  exact ⟨N, (nI_leI (a := 1) (by decide) hN).mp h.1, (nI_leI (b := 6) hN (by decide)).mp h.2, rfl⟩
/-- a mount is told: the value, whichever way the planner took -/
theorem c_X7_mount {l : Launch} (hl : l.stackTraces = false) (M : Mem) (o : Ou) {n m : Nat} {pl rd : Nat → Nat} (p c i : Int32) (hf : M 1 3 = nI n) (hn : n ≤ 32) (hm : M 8 4 = nI m) (h60 : m ≤ 60) (h8 : ∀ p, cntN (M 20) p m ≤ 8) (hS : CSt M pl rd) (bp : ∀ k, k < m → pl k < 8000000) (br : ∀ k, k < m → rd k ≤ 2) : Ct l 20 8 101 [.ref 0, .int p, .int c, .int i] M o (fun v M' o' => kMo p c i n = 0 ∧ o' = o ∧ ∃ r, v = some (.int r) ∧ moR M m pl rd p c i r M') (xF IOB IAE (kMo p c i n) (fun M' => M' = M) o) := by
  refine ct_plain hl ok101 (by decide) (by decide) rfl rfl (by decide) (Nat.le_of_ble_eq_true rfl) (fun G hG => hG 0 _ _ _ _ _ ?_)
  refine clR (c_X7_requirePlayer hl M o p hf (by omega)) (by decide) (by decide) (fun hp => ?_) (fun hp => ?_)
  · refine clI (c_X7_within hl M o _ _ _) (by decide) (by decide) ⟨fun h => ?_, fun h => clI (c_X7_within hl M o _ _ _) (by decide) (by decide) ⟨fun h2 => ?_, fun h2 => ?_⟩⟩
    · refine hG 15 _ _ _ _ _ ?_
      have hk : kMo p c i n = 2 := by unfold kMo; rw [inB_t hp, cond_z h]; rfl
      exact ⟨⟨Or.inr ⟨hk, rfl⟩, rfl, rfl⟩, by decide⟩
    · refine hG 20 _ _ _ _ _ ?_
      have hk : kMo p c i n = 0 := by unfold kMo; rw [inB_t hp, cond_n h, cond_n h2]; rfl
      obtain ⟨N, n1, n6, rfl⟩ := wi16 (cond_n h)
      have hi := (wiF_n (v := i) (n := N) (by omega)).mp (cond_n h2)
      obtain ⟨I, hI, rfl⟩ := vp_in_of hi (by omega)
      generalize hxs : ownL (M 20) p m = xs
      refine clP (c_X2_plan hl M o (m := m) (N := N) (pl := pl) (rd := rd) (Q := qF xs pl) (C := cF (M 23) (M 8 5) rd xs N) (xs := xs) p hm h60 (h8 p) (fun k hk => hS.1 k (by omega)) (fun k hk => by have := bp k hk; omega) (fun k hk => ⟨hS.2 k (by omega), br k hk⟩) n6 n1 hxs.symm rfl rfl) (by decide) (by decide) (fun v M1 o1 q => ?_) (fun _ _ _ q => q.elim)
      obtain ⟨hv, ho, hF, d, R, th, hg, hR, hfull, hway⟩ := q
      subst hv
      rw [ho]
      refine clI (c_X2_ponyIn hl M1 o (k := I) (by omega)) (by decide) (by decide) ?_
      refine ⟨⟨hk, rfl, _, rfl, hF, ?_⟩, by decide⟩
      rw [hxs, nI_clamp (by omega), nI_clamp (by omega)]
      exact ⟨_, ⟨d, R, th, hg, hR, hfull, rfl⟩, hway I hI⟩
    · have hk : kMo p c i n = 2 := by unfold kMo; rw [inB_t hp, cond_z h2, Bool.and_false]; rfl
      exact ⟨⟨Or.inr ⟨hk, rfl⟩, rfl, rfl⟩, by decide⟩
  · have hk : kMo p c i n = 1 := by unfold kMo; rw [inB_f hp]; rfl
    exact ⟨⟨Or.inl ⟨hk, rfl⟩, rfl, rfl⟩, by decide⟩
