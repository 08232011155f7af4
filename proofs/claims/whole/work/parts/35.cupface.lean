/-! CONTRACTS: the cup's faces. -/
def kCu (a b : Int32) : Nat := cond (wiF a 0 40 && wiF b 4 6) 0 1
theorem c_X7_cup {l : Launch} (hl : l.stackTraces = false) (M : Mem) (o : Ou) (a b : Int32) : Ct l 20 8 89 [.ref 0, .int a, .int b] M o (vF (kCu a b) (eF (kCu a b) (cNew M a b) M) o) (xF IAE IAE (kCu a b) (eF (kCu a b) (cNew M a b) M) o) := by
  refine ct_plain hl ok89 (by decide) (by decide) rfl rfl (by decide) (Nat.le_of_ble_eq_true rfl) (fun G hG => hG 0 _ _ _ _ _ ?_)
  refine clI (c_X7_within hl M o _ _ _) (by decide) (by decide) ⟨fun h => ?_, fun h => clI (c_X7_within hl M o _ _ _) (by decide) (by decide) ⟨fun h2 => ?_, fun h2 => ?_⟩⟩
  · refine hG 10 _ _ _ _ _ ?_
    have hk : kCu a b = 1 := by unfold kCu; rw [cond_z h]; rfl
    exact ⟨⟨Or.inl ⟨hk, rfl⟩, eF1 hk, rfl⟩, by decide⟩
  · refine hG 15 _ _ _ _ _ ?_
    have hk : kCu a b = 0 := by unfold kCu; rw [cond_n h, cond_n h2]; rfl
    exact clV (c_X6_beginAnew hl M o a b) (by decide) (by decide) ⟨⟨hk, rfl, eF0 hk, rfl⟩, by decide⟩
  · have hk : kCu a b = 1 := by unfold kCu; rw [cond_z h2, Bool.and_false]; rfl
    exact ⟨⟨Or.inl ⟨hk, rfl⟩, eF1 hk, rfl⟩, by decide⟩
abbrev undr (op dr : Int32) : Prop := ¬ op = 0 ∧ dr = 0
theorem c_X7_requireUndrawnCup {l : Launch} (hl : l.stackTraces = false) (M : Mem) (o : Ou) (hz : bz (M 3 4)) (hz2 : bz (M 3 5)) : Ct l 9 1 116 [.ref 0] M o (qV (undr (M 3 4) (M 3 5)) M o) (qX (undr (M 3 4) (M 3 5)) ISE M o) := by
  refine ct_plain hl ok116 (by decide) (by decide) rfl rfl (by decide) (Nat.le_of_ble_eq_true rfl) (fun G hG => hG 0 _ _ _ _ _ ?_)
  refine clI (c_X6_isOpen hl M o hz) (by decide) (by decide) ⟨fun h => ?_, fun h => clI (c_X6_isDrawn hl M o hz2) (by decide) (by decide) ⟨fun h2 => ?_, fun h2 => ?_⟩⟩
  · refine hG 8 _ _ _ _ _ ?_
    exact ⟨⟨fun q => q.1 h, rfl, rfl, rfl⟩, by decide⟩
  · refine hG 13 _ _ _ _ _ ?_
    exact ⟨⟨⟨h, h2⟩, rfl, rfl, rfl⟩, by decide⟩
  · exact ⟨⟨fun q => h2 q.2, rfl, rfl, rfl⟩, by decide⟩
def kEn (t op dr : Int32) (n : Nat) : Nat := cond (inB t n) (if undr op dr then 0 else 2) 1
def enV (t s lim : Int32) (E : List Int32) : Int32 := if t ∈ E then -1 else if s ≤ lim then nI (E.length + 1) else -2
def enM (t s lim : Int32) (E : List Int32) (M1 M : Mem) : Mem := if t ∈ E then M else if s ≤ lim then M1 else M
abbrev cSum (M : Mem) (t : Int32) : Int32 := sum4 (M 12) (M 14) t.toNatClampNeg
abbrev cEn (M : Mem) (E : List Int32) (t : Int32) : Mem := enM t (cSum M t) (M 3 6) E (mset (mset M 16 E.length t) 4 1 (nI (E.length + 1))) M
abbrev cKE (M : Mem) (t : Int32) (n : Nat) : Nat := kEn t (M 3 4) (M 3 5) n
theorem c_X7_enter {l : Launch} (hl : l.stackTraces = false) (M : Mem) (o : Ou) {n : Nat} {E : List Int32} (t : Int32) (hf : M 1 4 = nI n) (hn : n ≤ 8) (hm : ∀ q, q < 4 * n → vp_in (M 14 q) 32) (hz : bz (M 3 4)) (hz2 : bz (M 3 5)) (hE : rl M 4 E) (h8 : vp_in t n → t ∉ E → E.length < 8) : Ct l 20 8 90 [.ref 0, .int t] M o (rF (cKE M t n) (enV t (cSum M t) (M 3 6) E) (eF (cKE M t n) (cEn M E t) M) o) (xF IOB ISE (cKE M t n) (eF (cKE M t n) (cEn M E t) M) o) := by
  refine ct_plain hl ok90 (by decide) (by decide) rfl rfl (by decide) (Nat.le_of_ble_eq_true rfl) (fun G hG => hG 0 _ _ _ _ _ ?_)
  refine clR (c_X7_requireTeam hl M o t hf (by omega)) (by decide) (by decide) (fun hp => ?_) (fun hp => ?_)
  · refine clR (c_X7_requireUndrawnCup hl M o hz hz2) (by decide) (by decide) (fun hu => ?_) (fun hu => ?_)
    · have hk : cKE M t n = 0 := by unfold cKE kEn; rw [inB_t hp, if_pos hu]; rfl
      refine clI (c_X6_holds hl M o t hE) (by decide) (by decide) ⟨fun h => ?_, fun h => ?_⟩
      · refine hG 12 _ _ _ _ _ ?_
        have h : t ∉ E := of_decide_eq_false (cond_z h)
        obtain ⟨T, hT, rfl⟩ := vp_in_of hp (by omega)
        have hs := c_X3_sumOf hl M o (T := T) (by omega) (fun q hq => hm _ (by omega))
        have e : sum4 (M 12) (M 14) T = cSum M (nI T) := by unfold cSum; rw [nI_clamp (by omega)]
        rw [e] at hs
        refine clI hs (by decide) (by decide) (clI (c_X6_limit hl M o) (by decide) (by decide) ⟨fun h2 => ?_, fun h2 => ?_⟩)
        · refine hG 22 _ _ _ _ _ ?_
          have e1 : cEn M E (nI T) = mset (mset M 16 E.length (nI T)) 4 1 (nI (E.length + 1)) := by unfold cEn enM; rw [if_neg h, if_pos h2]
          have e2 : enV (nI T) (cSum M (nI T)) (M 3 6) E = nI (E.length + 1) := by unfold enV; rw [if_neg h, if_pos h2]
          rw [e1, e2]
          exact clI (c_X6_admit hl M o (nI T) hE (h8 hp h)) (by decide) (by decide) ⟨⟨hk, rfl, eF0 hk, rfl⟩, by decide⟩
        · have e1 : cEn M E (nI T) = M := by unfold cEn enM; rw [if_neg h, if_neg h2]
          have e2 : enV (nI T) (cSum M (nI T)) (M 3 6) E = -2 := by unfold enV; rw [if_neg h, if_neg h2]
          rw [e1, e2]
          exact ⟨⟨hk, rfl, eF0 hk, rfl⟩, by decide⟩
      · have h : t ∈ E := of_decide_eq_true (cond_n h)
        have e1 : cEn M E t = M := by unfold cEn enM; rw [if_pos h]
        have e2 : enV t (cSum M t) (M 3 6) E = -1 := by unfold enV; rw [if_pos h]
        rw [e1, e2]
        exact ⟨⟨hk, rfl, eF0 hk, rfl⟩, by decide⟩
    · have hk : cKE M t n = 2 := by unfold cKE kEn; rw [inB_t hp, if_neg hu]; rfl
      exact ⟨⟨Or.inr ⟨hk, rfl⟩, eF2 hk, rfl⟩, by decide⟩
  · have hk : cKE M t n = 1 := by unfold cKE kEn; rw [inB_f hp]; rfl
    exact ⟨⟨Or.inl ⟨hk, rfl⟩, eF1 hk, rfl⟩, by decide⟩
def kDr (op dr : Int32) : Nat := if undr op dr then 0 else 1
def drV (e n : Nat) : Int32 := if e < 2 then -1 else if n < e - 1 then -2 else nI e
abbrev cDr (M : Mem) (f : Nat → Int32) (e : Nat) : Mem := mset (mset (mset (mset (mrow M 17 f) 5 1 (nI e)) 3 5 1) 3 9 1) 2 1 0
def dR (M : Mem) (E : List Int32) (n k : Nat) : Mem → Prop := fun M' => if k = 0 ∧ 2 ≤ E.length ∧ E.length - 1 ≤ n then ∃ f, M' = cDr M f E.length ∧ Lst f (nI E.length) (shF (M 15) (E.length - 1) 0 E) else M' = M
abbrev cKD (M : Mem) : Nat := kDr (M 3 4) (M 3 5)
theorem c_X7_draw {l : Launch} (hl : l.stackTraces = false) (M : Mem) (o : Ou) {n : Nat} {E : List Int32} (hf : M 2 1 = nI n) (hn : n ≤ 20) (hz : bz (M 3 4)) (hz2 : bz (M 3 5)) (hE : rl M 4 E) (hW : M 3 5 = 0 → M 5 1 = 0) : Ct l 20 8 92 [.ref 0] M o (rF (cKD M) (drV E.length n) (dR M E n (cKD M)) o) (xF ISE IAE (cKD M) (dR M E n (cKD M)) o) := by
  have e8 := hE.2.1
  refine ct_plain hl ok92 (by decide) (by decide) rfl rfl (by decide) (Nat.le_of_ble_eq_true rfl) (fun G hG => hG 0 _ _ _ _ _ ?_)
  refine clR (c_X7_requireUndrawnCup hl M o hz hz2) (by decide) (by decide) (fun hu => ?_) (fun hu => ?_)
  · have hk : cKD M = 0 := by unfold cKD kDr; rw [if_pos hu]
    have hW := hW hu.2
    refine clI (c_X6_teams hl M o) (by decide) (by decide) ?_
    rw [hE.1]
    refine ⟨fun h => ?_, fun h => ?_⟩
    · refine hG 11 _ _ _ _ _ ?_
      have h : 2 ≤ E.length := (nI_leI (a := 2) (by decide) (by omega)).mp h
      have e1 : nI E.length - 1 = nI (E.length - 1) := by rw [← nI_pred (E.length - 1), show E.length - 1 + 1 = E.length by omega]
      refine clI (c_X1_size hl M o) (by decide) (by decide) ⟨fun h2 => ?_, fun h2 => ?_⟩
      · refine hG 20 _ _ _ _ _ ?_
        rw [hf, e1] at h2
        have h2 : E.length - 1 ≤ n := (nI_leI (by omega) (by omega)).mp h2
        refine clP (c_X6_shuffle hl M o hE hW h hf hn h2) (by decide) (by decide) (fun v M' o' q => ?_) (fun _ _ _ q => q.elim)
        obtain ⟨rfl, rfl, f, rfl, hf⟩ := q
        refine clV (c_X1_empty hl _ o') (by decide) (by decide) ⟨⟨hk, ?_, ?_, rfl⟩, by decide⟩
        · unfold drV; rw [if_neg (by omega), if_neg (by omega)]
        · unfold dR; rw [if_pos ⟨hk, h, h2⟩]; exact ⟨f, rfl, hf⟩
      · rw [hf, e1] at h2
        have h2 : ¬ E.length - 1 ≤ n := fun q => h2 (nI_le q (by omega))
        refine ⟨⟨hk, ?_, ?_, rfl⟩, by decide⟩
        · unfold drV; rw [if_neg (by omega), if_pos (by omega)]
        · unfold dR; rw [if_neg (fun q => h2 q.2.2)]
    · have h : ¬ 2 ≤ E.length := fun q => h (nI_le (a := 2) q (by omega))
      refine ⟨⟨hk, ?_, ?_, rfl⟩, by decide⟩
      · unfold drV; rw [if_pos (by omega)]
      · unfold dR; rw [if_neg (fun q => h q.2.1)]
  · have hk : cKD M = 1 := by unfold cKD kDr; rw [if_neg hu]
    exact ⟨⟨Or.inl ⟨hk, rfl⟩, by unfold dR; rw [if_neg (by rw [hk]; exact fun q => absurd q.1 (by decide))], rfl⟩, by decide⟩
def kWh (w : Int32) : Nat := cond (whF w) 0 1
theorem c_X7_next {l : Launch} (hl : l.stackTraces = false) (M : Mem) (o : Ou) {W H L : List Int32} (w : Int32) (hW : rl M 5 W) (hH : rl M 6 H) (hL : rl M 7 L) : Ct l 20 8 93 [.ref 0, .int w] M o (rF (kWh w) (snF W H L.length w.toNatClampNeg) (eF (kWh w) M M) o) (xF IAE IAE (kWh w) (eF (kWh w) M M) o) := by
  refine ct_plain hl ok93 (by decide) (by decide) rfl rfl (by decide) (Nat.le_of_ble_eq_true rfl) (fun G hG => hG 0 _ _ _ _ _ ?_)
  refine clR (c_X7_requireZeroOrOne hl M o w) (by decide) (by decide) (fun hw => ?_) (fun hw => ?_)
  · have hk : kWh w = 0 := by unfold kWh; rw [hw]; rfl
    rcases whF_e hw with rfl | rfl
    · exact clI (c_X6_sideOfNext hl M o (w := 0) hW hH hL (by decide)) (by decide) (by decide) ⟨⟨hk, rfl, eF0 hk, rfl⟩, by decide⟩
    · exact clI (c_X6_sideOfNext hl M o (w := 1) hW hH hL (by decide)) (by decide) (by decide) ⟨⟨hk, rfl, eF0 hk, rfl⟩, by decide⟩
  · have hk : kWh w = 1 := by unfold kWh; rw [Bool.not_eq_true _ |>.mp hw]; rfl
    exact ⟨⟨Or.inl ⟨hk, rfl⟩, eF1 hk, rfl⟩, by decide⟩
def hvF (d c : Int32) : Int32 := if d ≤ 0 then 0 else d * c / 6 * 2 + (if d * c - d * c / 6 * 6 = 0 then 0 else 1)
theorem c_X7_halvesFor {l : Launch} (hl : l.stackTraces = false) (M : Mem) (o : Ou) {A B : Nat} (hA : A < 8) (hB : B < 8) (mA : ∀ q, q < 4 → vp_in (M 14 (4 * A + q)) 32) (mB : ∀ q, q < 4 → vp_in (M 14 (4 * B + q)) 32) : Ct l 10 0 117 [.ref 0, .int (nI A), .int (nI B)] M o (rI (hvF (sum4 (M 12) (M 14) B - sum4 (M 12) (M 14) A) (M 3 7)) M o) nX := by
  refine ct_plain hl ok117 (by decide) (by decide) rfl rfl (by decide) (Nat.le_of_ble_eq_true rfl) (fun G hG => hG 0 _ _ _ _ _ ?_)
  refine clI (c_X3_sumOf hl M o hB mB) (by decide) (by decide) (clI (c_X3_sumOf hl M o hA mA) (by decide) (by decide) ?_)
  generalize hd : sum4 (M 12) (M 14) B = sb at hG ⊢
  generalize hd : sum4 (M 12) (M 14) A = sa at hG ⊢
  refine ⟨fun h => ?_, fun h => ?_⟩
  · refine hG 14 _ _ _ _ _ ?_
    refine clI (c_X6_chukkas hl M o) (by decide) (by decide) ⟨by decide, by decide, fun h2 => ?_, fun h2 => ?_⟩
    · refine hG 31 _ _ _ _ _ ?_
      exact ⟨⟨by unfold hvF; rw [if_neg (Int32.not_le.mpr h), if_neg h2], rfl, rfl⟩, Nat.le_refl _⟩
    · refine hG 32 _ _ _ _ _ ?_
      exact ⟨⟨by unfold hvF; rw [if_neg (Int32.not_le.mpr h), if_pos h2], rfl, rfl⟩, Nat.le_refl _⟩
  · exact ⟨⟨by unfold hvF; rw [if_pos (Int32.not_lt.mp h)], rfl, rfl⟩, Nat.le_refl _⟩
/-- a number that is none, or a team with members -/
def tmOk (M : Mem) (t : Int32) : Prop := t = -1 ∨ ∃ T, T < 8 ∧ t = nI T ∧ ∀ q, q < 4 → vp_in (M 14 (4 * T + q)) 32
def gvV (h m : Nat → Int32) (c a b : Int32) : Int32 := if a = -1 ∨ b = -1 then -1 else hvF (sum4 h m b.toNatClampNeg - sum4 h m a.toNatClampNeg) c
theorem c_X7_given {l : Launch} (hl : l.stackTraces = false) (M : Mem) (o : Ou) {W H L : List Int32} (w : Int32) (hW : rl M 5 W) (hH : rl M 6 H) (hL : rl M 7 L) (h0 : tmOk M (snF W H L.length 0)) (h1 : tmOk M (snF W H L.length 1)) : Ct l 20 8 94 [.ref 0, .int w] M o (rF (kWh w) (gvV (M 12) (M 14) (M 3 7) (snF W H L.length w.toNatClampNeg) (snF W H L.length (1 - w.toNatClampNeg))) (eF (kWh w) M M) o) (xF IAE IAE (kWh w) (eF (kWh w) M M) o) := by
  refine ct_plain hl ok94 (by decide) (by decide) rfl rfl (by decide) (Nat.le_of_ble_eq_true rfl) (fun G hG => hG 0 _ _ _ _ _ ?_)
  refine clR (c_X7_requireZeroOrOne hl M o w) (by decide) (by decide) (fun hw => ?_) (fun hw => ?_)
  · have hk : kWh w = 0 := by unfold kWh; rw [hw]; rfl
    rw [hk] at hG ⊢
    have key : ∀ w x a b, tmOk M a → tmOk M b → gvV (M 12) (M 14) (M 3 7) a b = x → BodyR l 20 8 e94 (rF 0 x (eF 0 M M) o) (xF IAE IAE 0 (eF 0 M M) o) G → XS l 20 8 e94 (rF 0 x (eF 0 M M) o) (xF IAE IAE 0 (eF 0 M M) o) G 13 [some (.ref 0), some (.int w), some (.int a), none] [.int b] M o 1 := by
      intro w x a b ha hb hx hG
      have no : (a = -1 ∨ b = -1) → x = -1 := fun h => by rw [← hx]; unfold gvV; rw [if_pos h]
      refine ⟨fun h => ?_, fun h => ⟨fun h2 => ?_, fun h2 => ?_⟩⟩
      · refine hG 20 _ _ _ _ _ ?_
        exact ⟨⟨rfl, by rw [no (Or.inl h)], eF0 rfl, rfl⟩, by decide⟩
      · refine hG 22 _ _ _ _ _ ?_
        rcases ha with ha | ⟨A, hA, rfl, mA⟩
        · exact absurd ha h
        rcases hb with hb | ⟨B, hB, rfl, mB⟩
        · exact absurd hb h2
        have hc := c_X7_halvesFor hl M o hA hB mA mB
        have e : hvF (sum4 (M 12) (M 14) B - sum4 (M 12) (M 14) A) (M 3 7) = x := by
          rw [← hx]; unfold gvV; rw [if_neg (fun q => q.elim h h2), nI_clamp (by omega), nI_clamp (by omega)]
        rw [e] at hc
        exact clI hc (by decide) (by decide) ⟨⟨rfl, rfl, eF0 rfl, rfl⟩, by decide⟩
      · exact ⟨⟨rfl, by rw [no (Or.inr h2)], eF0 rfl, rfl⟩, by decide⟩
    rcases whF_e hw with rfl | rfl
    · exact clI (c_X6_sideOfNext hl M o (w := 0) hW hH hL (by decide)) (by decide) (by decide) (clI (c_X6_sideOfNext hl M o (w := 1) hW hH hL (by decide)) (by decide) (by decide) (key _ _ _ _ h0 h1 rfl hG))
    · exact clI (c_X6_sideOfNext hl M o (w := 1) hW hH hL (by decide)) (by decide) (by decide) (clI (c_X6_sideOfNext hl M o (w := 0) hW hH hL (by decide)) (by decide) (by decide) (key _ _ _ _ h1 h0 rfl hG))
  · have hk : kWh w = 1 := by unfold kWh; rw [Bool.not_eq_true _ |>.mp hw]; rfl
    exact ⟨⟨Or.inl ⟨hk, rfl⟩, eF1 hk, rfl⟩, by decide⟩
theorem c_X7_where {l : Launch} (hl : l.stackTraces = false) (M : Mem) (o : Ou) {n : Nat} {E W H : List Int32} (t : Int32) (hf : M 1 4 = nI n) (hn : n ≤ 8) (hz : bz (M 3 5)) (hE : rl M 4 E) (hW : rl M 5 W) (hH : rl M 6 H) : Ct l 20 8 96 [.ref 0, .int t] M o (rF (kTm t n) (poF (M 3 5) E W H t) (eF (kTm t n) M M) o) (xF IOB IAE (kTm t n) (eF (kTm t n) M M) o) := by
  refine ct_plain hl ok96 (by decide) (by decide) rfl rfl (by decide) (Nat.le_of_ble_eq_true rfl) (fun G hG => hG 0 _ _ _ _ _ ?_)
  refine clR (c_X7_requireTeam hl M o t hf (by omega)) (by decide) (by decide) (fun hp => ?_) (fun hp => ?_)
  · have hk : kTm t n = 0 := by unfold kTm; rw [inB_t hp]; rfl
    exact clI (c_X6_placeOf hl M o t hz hE hW hH) (by decide) (by decide) ⟨⟨hk, rfl, eF0 hk, rfl⟩, by decide⟩
  · have hk : kTm t n = 1 := by unfold kTm; rw [inB_f hp]; rfl
    exact ⟨⟨Or.inl ⟨hk, rfl⟩, eF1 hk, rfl⟩, by decide⟩
theorem c_X7_row {l : Launch} (hl : l.stackTraces = false) (M : Mem) (o : Ou) {W H : List Int32} (w k : Int32) (hW : rl M 5 W) (hH : rl M 6 H) : Ct l 20 8 97 [.ref 0, .int w, .int k] M o (rF (kWh w) (if w = 0 then atI W k else atI H k) (eF (kWh w) M M) o) (xF IAE IAE (kWh w) (eF (kWh w) M M) o) := by
  refine ct_plain hl ok97 (by decide) (by decide) rfl rfl (by decide) (Nat.le_of_ble_eq_true rfl) (fun G hG => hG 0 _ _ _ _ _ ?_)
  refine clR (c_X7_requireZeroOrOne hl M o w) (by decide) (by decide) (fun hw => ?_) (fun hw => ?_)
  · have hk : kWh w = 0 := by unfold kWh; rw [hw]; rfl
    rcases whF_e hw with rfl | rfl
    · exact clI (c_X6_inRow hl M o (w := 0) k (by decide) hW hH) (by decide) (by decide) ⟨⟨hk, rfl, eF0 hk, rfl⟩, by decide⟩
    · exact clI (c_X6_inRow hl M o (w := 1) k (by decide) hW hH) (by decide) (by decide) ⟨⟨hk, rfl, eF0 hk, rfl⟩, by decide⟩
  · have hk : kWh w = 1 := by unfold kWh; rw [Bool.not_eq_true _ |>.mp hw]; rfl
    exact ⟨⟨Or.inl ⟨hk, rfl⟩, eF1 hk, rfl⟩, by decide⟩
def cnL (w : Int32) : Nat → List Int32 → Int32
  | _, [] => -1
  | i, x :: xs => if w = nI i then x else cnL w (i + 1) xs
abbrev cCn (M : Mem) : List Int32 := [M 1 3, M 1 4, M 8 4, M 4 1, M 3 8, M 3 9, M 8 5, M 2 1, M 10 5]
abbrev mCn (M : Mem) : List Int32 := [M 11 3, M 11 5, M 11 30, M 11 13, M 11 11, M 11 10, M 11 31, M 11 15, M 11 49]
theorem c_X7_count {l : Launch} (hl : l.stackTraces = false) (M : Mem) (o : Ou) (w : Int32) : Ct l 20 8 108 [.ref 0, .int w] M o (rI (cnL w 0 (cCn M)) M o) nX := by
  refine ct_plain hl ok108 (by decide) (by decide) rfl rfl (by decide) (Nat.le_of_ble_eq_true rfl) (fun G hG => hG 0 _ _ _ _ _ ?_)
  refine ⟨fun h => ?_, fun h0 => ⟨fun h => ?_, fun h1 => ⟨fun h => ?_, fun h2 => ⟨fun h => ?_, fun h3 => ⟨fun h => ?_, fun h4 => ⟨fun h => ?_, fun h5 => ⟨fun h => ?_, fun h6 => ⟨fun h => ?_, fun h7 => ⟨fun h => ?_, fun h8 => ?_⟩⟩⟩⟩⟩⟩⟩⟩⟩
  · refine hG 2 _ _ _ _ _ ?_
    exact clI (c_X3_players hl M o) (by decide) (by decide) ⟨⟨by rw [cnL, if_pos h], rfl, rfl⟩, by decide⟩
  · refine hG 6 _ _ _ _ _ ?_
    exact clI (c_X3_teams hl M o) (by decide) (by decide) ⟨⟨by rw [cnL, if_neg h0, cnL, if_pos h], rfl, rfl⟩, by decide⟩
  · refine hG 10 _ _ _ _ _ ?_
    exact clI (c_X5_ponies hl M o) (by decide) (by decide) ⟨⟨by rw [cnL, if_neg h0, cnL, if_neg h1, cnL, if_pos h], rfl, rfl⟩, by decide⟩
  · refine hG 14 _ _ _ _ _ ?_
    exact clI (c_X6_teams hl M o) (by decide) (by decide) ⟨⟨by rw [cnL, if_neg h0, cnL, if_neg h1, cnL, if_neg h2, cnL, if_pos h], rfl, rfl⟩, by decide⟩
  · refine hG 18 _ _ _ _ _ ?_
    exact clI (c_X6_matchesPlayed hl M o) (by decide) (by decide) ⟨⟨by rw [cnL, if_neg h0, cnL, if_neg h1, cnL, if_neg h2, cnL, if_neg h3, cnL, if_pos h], rfl, rfl⟩, by decide⟩
  · refine hG 22 _ _ _ _ _ ?_
    exact clI (c_X6_roundsBegun hl M o) (by decide) (by decide) ⟨⟨by rw [cnL, if_neg h0, cnL, if_neg h1, cnL, if_neg h2, cnL, if_neg h3, cnL, if_neg h4, cnL, if_pos h], rfl, rfl⟩, by decide⟩
  · refine hG 26 _ _ _ _ _ ?_
    exact clI (c_X5_today hl M o) (by decide) (by decide) ⟨⟨by rw [cnL, if_neg h0, cnL, if_neg h1, cnL, if_neg h2, cnL, if_neg h3, cnL, if_neg h4, cnL, if_neg h5, cnL, if_pos h], rfl, rfl⟩, by decide⟩
  · refine hG 30 _ _ _ _ _ ?_
    exact clI (c_X1_size hl M o) (by decide) (by decide) ⟨⟨by rw [cnL, if_neg h0, cnL, if_neg h1, cnL, if_neg h2, cnL, if_neg h3, cnL, if_neg h4, cnL, if_neg h5, cnL, if_neg h6, cnL, if_pos h], rfl, rfl⟩, by decide⟩
  · refine hG 34 _ _ _ _ _ ?_
    exact clI (c_X0_riders hl M o) (by decide) (by decide) ⟨⟨by rw [cnL, if_neg h0, cnL, if_neg h1, cnL, if_neg h2, cnL, if_neg h3, cnL, if_neg h4, cnL, if_neg h5, cnL, if_neg h6, cnL, if_neg h7, cnL, if_pos h], rfl, rfl⟩, by decide⟩
  · refine hG 38 _ _ _ _ _ ?_
    exact ⟨⟨by rw [cnL, if_neg h0, cnL, if_neg h1, cnL, if_neg h2, cnL, if_neg h3, cnL, if_neg h4, cnL, if_neg h5, cnL, if_neg h6, cnL, if_neg h7, cnL, if_neg h8, cnL], rfl, rfl⟩, by decide⟩
theorem c_X8_count {l : Launch} (hl : l.stackTraces = false) (M : Mem) (o : Ou) (w : Int32) : Ct l 20 0 176 [.ref 11, .int w] M o (rI (cnL w 0 (mCn M)) (thr M 0) o) nX := by
  refine ct_plain hl ok176 (by decide) (by decide) rfl rfl (by decide) (Nat.le_of_ble_eq_true rfl) (fun G hG => hG 0 _ _ _ _ _ ?_)
  refine ⟨fun h => ?_, fun h0 => ⟨fun h => ?_, fun h1 => ⟨fun h => ?_, fun h2 => ⟨fun h => ?_, fun h3 => ⟨fun h => ?_, fun h4 => ⟨fun h => ?_, fun h5 => ⟨fun h => ?_, fun h6 => ⟨fun h => ?_, fun h7 => ⟨fun h => ?_, fun h8 => ?_⟩⟩⟩⟩⟩⟩⟩⟩⟩
  · refine hG 5 _ _ _ _ _ ?_
    exact ⟨⟨by rw [cnL, if_pos h]; rfl, rfl, rfl⟩, by decide⟩
  · refine hG 8 _ _ _ _ _ ?_
    exact ⟨⟨by rw [cnL, if_neg h0, cnL, if_pos h]; rfl, rfl, rfl⟩, by decide⟩
  · refine hG 11 _ _ _ _ _ ?_
    exact ⟨⟨by rw [cnL, if_neg h0, cnL, if_neg h1, cnL, if_pos h]; rfl, rfl, rfl⟩, by decide⟩
  · refine hG 14 _ _ _ _ _ ?_
    exact ⟨⟨by rw [cnL, if_neg h0, cnL, if_neg h1, cnL, if_neg h2, cnL, if_pos h]; rfl, rfl, rfl⟩, by decide⟩
  · refine hG 17 _ _ _ _ _ ?_
    exact ⟨⟨by rw [cnL, if_neg h0, cnL, if_neg h1, cnL, if_neg h2, cnL, if_neg h3, cnL, if_pos h]; rfl, rfl, rfl⟩, by decide⟩
  · refine hG 20 _ _ _ _ _ ?_
    exact ⟨⟨by rw [cnL, if_neg h0, cnL, if_neg h1, cnL, if_neg h2, cnL, if_neg h3, cnL, if_neg h4, cnL, if_pos h]; rfl, rfl, rfl⟩, by decide⟩
  · refine hG 23 _ _ _ _ _ ?_
    exact ⟨⟨by rw [cnL, if_neg h0, cnL, if_neg h1, cnL, if_neg h2, cnL, if_neg h3, cnL, if_neg h4, cnL, if_neg h5, cnL, if_pos h]; rfl, rfl, rfl⟩, by decide⟩
  · refine hG 26 _ _ _ _ _ ?_
    exact ⟨⟨by rw [cnL, if_neg h0, cnL, if_neg h1, cnL, if_neg h2, cnL, if_neg h3, cnL, if_neg h4, cnL, if_neg h5, cnL, if_neg h6, cnL, if_pos h]; rfl, rfl, rfl⟩, by decide⟩
  · refine hG 29 _ _ _ _ _ ?_
    exact ⟨⟨by rw [cnL, if_neg h0, cnL, if_neg h1, cnL, if_neg h2, cnL, if_neg h3, cnL, if_neg h4, cnL, if_neg h5, cnL, if_neg h6, cnL, if_neg h7, cnL, if_pos h]; rfl, rfl, rfl⟩, by decide⟩
  · refine hG 32 _ _ _ _ _ ?_
    exact ⟨⟨by rw [cnL, if_neg h0, cnL, if_neg h1, cnL, if_neg h2, cnL, if_neg h3, cnL, if_neg h4, cnL, if_neg h5, cnL, if_neg h6, cnL, if_neg h7, cnL, if_neg h8, cnL], rfl, rfl⟩, by decide⟩
