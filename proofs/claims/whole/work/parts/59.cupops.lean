/-! THE TWO SIDES: the cup. -/
theorem pr2_at {W : List Int32} {n m : Nat} (h : m < n) : (pr2 W n).getD m (0, 0) = (W.getD (2 * m) 0, W.getD (2 * m + 1) 0) := by
  unfold pr2
  rw [List.getD_eq_getElem?_getD, List.getElem?_map, List.getElem?_range h]; rfl
theorem prs_len (W H : List Int32) : (prs W H).length = if W.length = 1 ∧ H.length = 1 then 1 else W.length / 2 + H.length / 2 := by
  unfold prs
  split
  · rfl
  · rw [List.length_append, pr2_len, pr2_len]
theorem sn_nx {W H : List Int32} {m : Nat} (hm : m ≤ (prs W H).length) : snF W H m 0 = nxM (prs W H) m 0 ∧ snF W H m 1 = nxM (prs W H) m 1 := by
  have hlen := prs_len W H
  by_cases h1 : W.length = 1 ∧ H.length = 1
  · rw [if_pos h1] at hlen
    have hp : prs W H = [(W.getD 0 0, H.getD 0 0)] := by unfold prs; rw [if_pos h1]
    have s0 : snF W H m 0 = if 0 < m then -1 else atN W 0 := by unfold snF; rw [if_pos h1, if_pos rfl]
    have s1 : snF W H m 1 = if 0 < m then -1 else atN H 0 := by unfold snF; rw [if_pos h1, if_neg (by decide : ¬ 1 = 0)]
    rw [s0, s1]
    unfold nxM
    rw [hlen, hp, if_pos (rfl : (0 : Int32) = 0), if_neg (by decide : ¬ (1 : Int32) = 0)]
    rcases Nat.eq_zero_or_pos m with w | w
    · subst w
      rw [if_neg (by decide), if_neg (by decide), if_neg (by decide), if_neg (by decide)]
      unfold atN
      rw [if_pos (by omega), if_pos (by omega)]
      exact ⟨rfl, rfl⟩
    · have : m = 1 := by omega
      subst this
      exact ⟨rfl, rfl⟩
  · rw [if_neg h1] at hlen
    have hp : prs W H = pr2 W (W.length / 2) ++ pr2 H (H.length / 2) := by unfold prs; rw [if_neg h1]
    have hl := pr2_len W (W.length / 2)
    have s0 : ∀ w, snF W H m w = if m < W.length / 2 then atN W (2 * m + w) else if m - W.length / 2 < H.length / 2 then atN H (2 * (m - W.length / 2) + w) else -1 := by intro w; unfold snF; rw [if_neg h1]
    rw [s0, s0]
    unfold nxM
    rw [hlen, hp, if_pos (rfl : (0 : Int32) = 0), if_neg (by decide : ¬ (1 : Int32) = 0)]
    by_cases w : m < W.length / 2
    · have hg : (pr2 W (W.length / 2) ++ pr2 H (H.length / 2)).getD m (0, 0) = (W.getD (2 * m) 0, W.getD (2 * m + 1) 0) := by
        rw [List.getD_eq_getElem?_getD, List.getElem?_append_left (by omega), ← List.getD_eq_getElem?_getD]
        exact pr2_at w
      have hne : ¬ m = W.length / 2 + H.length / 2 := by omega
      rw [hg, if_pos w, if_pos w, if_neg hne, if_neg hne]
      unfold atN
      rw [if_pos (by omega), if_pos (by omega)]
      exact ⟨rfl, rfl⟩
    · by_cases w2 : m - W.length / 2 < H.length / 2
      · have hg : (pr2 W (W.length / 2) ++ pr2 H (H.length / 2)).getD m (0, 0) = (H.getD (2 * (m - W.length / 2)) 0, H.getD (2 * (m - W.length / 2) + 1) 0) := by
          rw [List.getD_eq_getElem?_getD, List.getElem?_append_right (by omega), hl, ← List.getD_eq_getElem?_getD]
          exact pr2_at w2
        have hne : ¬ m = W.length / 2 + H.length / 2 := by omega
        rw [hg, if_neg w, if_neg w, if_pos w2, if_pos w2, if_neg hne, if_neg hne]
        unfold atN
        rw [if_pos (by omega), if_pos (by omega)]
        exact ⟨rfl, rfl⟩
      · have hne : m = W.length / 2 + H.length / 2 := by omega
        rw [if_neg w, if_neg w, if_neg w2, if_neg w2, if_pos hne, if_pos hne]
        exact ⟨rfl, rfl⟩
theorem prs_mem {W H : List Int32} {m : Nat} (hm : m < (prs W H).length) : ((prs W H).getD m (0, 0)).1 ∈ W ++ H ∧ ((prs W H).getD m (0, 0)).2 ∈ W ++ H := by
  rw [prs_len] at hm
  by_cases h1 : W.length = 1 ∧ H.length = 1
  · rw [if_pos h1] at hm
    have hp : prs W H = [(W.getD 0 0, H.getD 0 0)] := by unfold prs; rw [if_pos h1]
    rw [hp, show m = 0 by omega]
    exact ⟨List.mem_append_left _ (getD_mem (by omega)), List.mem_append_right _ (getD_mem (by omega))⟩
  · rw [if_neg h1] at hm
    have hp : prs W H = pr2 W (W.length / 2) ++ pr2 H (H.length / 2) := by unfold prs; rw [if_neg h1]
    rw [hp]
    have hl := pr2_len W (W.length / 2)
    by_cases w : m < W.length / 2
    · rw [List.getD_eq_getElem?_getD, List.getElem?_append_left (by omega), ← List.getD_eq_getElem?_getD, pr2_at w]
      exact ⟨List.mem_append_left _ (getD_mem (by omega)), List.mem_append_left _ (getD_mem (by omega))⟩
    · rw [List.getD_eq_getElem?_getD, List.getElem?_append_right (by omega), hl, ← List.getD_eq_getElem?_getD, pr2_at (by omega)]
      exact ⟨List.mem_append_right _ (getD_mem (by omega)), List.mem_append_right _ (getD_mem (by omega))⟩
theorem op_cup {l : Launch} (hl : l.stackTraces = false) (M : Mem) (o : Ou) {c : Nat} (a b : Int32) (h : Inv c M) : OpN l 183 [.ref 0, .int a, .int b] 131 [.ref 11, .int a, .int b] c M o := by
  have h' := h
  obtain ⟨n, t, e, m, dd, r, pl, rd, E, W, H, L, h1, h2, h3, h4, h5⟩ := h
  have hkk : kCu a b ≤ 2 := by unfold kCu; exact cond2 (by decide) (by decide)
  refine ⟨kCu a b, _, hkk, w_cup hl M o a b (by decide) (by unfold kCu; cases (wiF a 0 40 && wiF b 4 6) <;> decide) (c_X7_cup hl M o a b), fun v M1 o1 q => ?_⟩
  obtain ⟨q1, q2, q3⟩ := q
  refine ⟨q1, _, c_X8_cup hl M1 o1 a b, fun v2 M2 o2 q => ?_⟩
  obtain ⟨w1, w2, w3⟩ := q
  refine ⟨w1, w3, ?_⟩
  unfold eF at q2
  by_cases hk : kCu a b = 0
  · rw [if_pos hk] at q2 w2
    rw [w2, q2, hk]
    have hb : wiF b 4 6 = true := by
      unfold kCu at hk
      have := (cond0 hk (by decide)).1
      simp only [Bool.and_eq_true] at this
      exact this.2
    have hN : ∃ N, 4 ≤ N ∧ N ≤ 6 ∧ b = nI N := by
      unfold wiF at hb
      simp only [Bool.and_eq_true, decide_eq_true_eq] at hb
      have h0 : ¬ b < 0 := fun z => by
        have := Int32.lt_of_lt_of_le z (show (0 : Int32) ≤ 4 by decide)
        exact absurd hb.1 (Int32.not_le.mpr this)
      obtain ⟨N, hN, rfl⟩ := nI_of h0
      exact ⟨N, (nI_leI (a := 4) (by decide) hN).mp hb.1, (nI_leI (b := 6) hN (by decide)).mp hb.2, rfl⟩
    have nl : ∀ f : Nat → Int32, Lst f 0 [] := fun f => Lst.nil
    exact ⟨rfl, n, t, e, m, dd, r, pl, rd, [], [], [], [], h1, h2, ⟨nl _, nl _, nl _, nl _, bz1, bz0, rfl, rfl, rfl, rfl, rfl, rfl, ⟨nl _, nl _, nl _, fun x hx => absurd hx List.not_mem_nil, fun x hx => absurd hx List.not_mem_nil, fun x hx => absurd hx List.not_mem_nil, by decide⟩, ⟨nl _, nl _, rfl, Nat.zero_le _⟩, fun j hj => absurd hj (Nat.not_lt_zero _), List.nodup_nil, fun x hx => absurd hx List.not_mem_nil, List.nodup_nil, fun x hx => absurd hx List.not_mem_nil, fun j hj => absurd hj (Nat.not_lt_zero _), fun _ => ⟨rfl, rfl, rfl, rfl⟩, fun _ => hN, fun z => absurd rfl z⟩, StaI.up (c := c) h4, h5⟩
  · rw [if_neg hk] at q2 w2
    rw [w2, q2]
    exact ⟨mset_same _ _ _ _, inv_thr h'⟩
theorem kWh_le (w : Int32) : kWh w ≤ 2 := by unfold kWh; exact cond2 (by decide) (by decide)
theorem kWh_ne (w : Int32) : kWh w ≠ 2 := by unfold kWh; cases whF w <;> decide
theorem op_next {l : Launch} (hl : l.stackTraces = false) (M : Mem) (o : Ou) {c : Nat} (w : Int32) (h : Inv c M) : OpV l 186 [.ref 0, .int w, .ref 63] 140 [.ref 11, .int w] c M o Int32.toInt64 := by
  have h' := h
  obtain ⟨n, t, e, m, dd, r, pl, rd, E, W, H, L, h1, h2, h3, h4, h5⟩ := h
  obtain ⟨t1, t2, t3, t4, t5, t6, t7, t8, t9, t10, t11, t12, t13, t14, t15, t16, t17, t18, t19, t20, t21, t22, t23⟩ := h3
  refine op_mk (M1' := thr M 0) (kWh_le w) (w_next hl M o w (by decide) (kWh_ne w) (c_X7_next hl M o w t2 t3 t4)) (fun hk => ⟨fun o => ?_, inv_thr h', rfl⟩) (fun hk => ⟨fun o => ⟨_, _, c_X8_next hl M o w t14⟩, inv_thr h'⟩)
  have := c_X8_next hl M o w t14
  unfold kWh at hk
  have hw := (cond0 hk (by decide)).1
  obtain ⟨s0, s1⟩ := sn_nx t14.le
  have e1 : snF W H L.length w.toNatClampNeg = nxM (prs W H) L.length w := by
    rcases whF_e hw with rfl | rfl
    · exact s0
    · exact s1
  rw [e1]
  exact this
theorem op_row {l : Launch} (hl : l.stackTraces = false) (M : Mem) (o : Ou) {c : Nat} (w k : Int32) (h : Inv c M) : OpV l 190 [.ref 0, .int w, .int k, .ref 63] 145 [.ref 11, .int w, .int k] c M o Int32.toInt64 := by
  have h' := h
  obtain ⟨n, t, e, m, dd, r, pl, rd, E, W, H, L, h1, h2, h3, h4, h5⟩ := h
  obtain ⟨t1, t2, t3, t4, t5, t6, t7, t8, t9, t10, t11, t12, t13, t14, t15, t16, t17, t18, t19, t20, t21, t22, t23⟩ := h3
  exact op_mk (M1' := thr M 0) (kWh_le w) (w_row hl M o w k (by decide) (kWh_ne w) (c_X7_row hl M o w k t2 t3)) (fun hk => ⟨fun o => c_X8_row hl M o w k t13.2.1 t13.2.2.1, inv_thr h', rfl⟩) (fun hk => ⟨fun o => ⟨_, _, c_X8_row hl M o w k t13.2.1 t13.2.2.1⟩, inv_thr h'⟩)
theorem op_where {l : Launch} (hl : l.stackTraces = false) (M : Mem) (o : Ou) {c : Nat} (a : Int32) (h : Inv c M) : OpV l 189 [.ref 0, .int a, .ref 63] 144 [.ref 11, .int a] c M o Int32.toInt64 := by
  have h' := h
  obtain ⟨n, t, e, m, dd, r, pl, rd, E, W, H, L, h1, h2, h3, h4, h5⟩ := h
  obtain ⟨a1, a2, a3, a4, a5, a6, a7, a8, a9, a10, a11⟩ := h1
  obtain ⟨t1, t2, t3, t4, t5, t6, t7, t8, t9, t10, t11, t12, t13, t14, t15, t16, t17, t18, t19, t20, t21, t22, t23⟩ := h3
  have hkk : kTm a t ≤ 2 := by unfold kTm; exact cond2 (by decide) (by decide)
  refine op_mk (M1' := thr M 0) hkk (w_where hl M o a (by decide) (by unfold kTm; cases inB a t <;> decide) (c_X7_where hl M o a a4 a2 t6 t1 t2 t3)) (fun hk => ⟨fun o => ?_, inv_thr h', rfl⟩) (fun hk => ⟨fun o => ⟨_, _, c_X8_where hl M o a a6 a2⟩, inv_thr h'⟩)
  have := c_X8_where hl M o a a6 a2
  unfold kTm at hk
  obtain ⟨q, hq, rfl⟩ := vp_in_of (inB_e (cond0 hk (by decide)).1) (by omega)
  have e1 : (if M 11 7 = 0 then 0 else M 45 (nI q).toNatClampNeg) = poF (M 3 5) E W H (nI q) := by
    rw [← t8]
    by_cases hd : M 3 5 = 0
    · rw [if_pos hd]; unfold poF; rw [if_pos (Or.inl hd)]
    · rw [if_neg hd, nI_clamp (by omega), (t23 hd).2 q (by omega)]
      by_cases hE : nI q ∈ E
      · have key : ∀ d : Int32, ¬ d = 0 → poF d E W H (nI q) = if nI q ∉ W ∧ nI q ∉ H then 3 else if W.length + H.length = 1 then 4 else if nI q ∈ W then 1 else 2 := fun d hd => by
          unfold poF; rw [if_neg (show ¬ (d = 0 ∨ nI q ∉ E) from fun z => z.elim hd (fun y => y hE))]
        rw [key 1 (by decide), key _ hd]
      · unfold poF; rw [if_pos (Or.inr hE), if_pos (Or.inr hE)]
  rw [e1] at this
  exact this
/-- as many without doubles as there are numbers -/
theorem nd_le : ∀ (xs ys : List Int32), xs.Nodup → (∀ x ∈ xs, x ∈ ys) → xs.length ≤ ys.length := by
  intro xs
  induction xs with
  | nil => intro ys _ _; exact Nat.zero_le _
  | cons x xs ih =>
    intro ys hn hs
    have hx := hs x List.mem_cons_self
    obtain ⟨h1, h2⟩ := List.nodup_cons.mp hn
    have h3 := ih (ys.erase x) h2 (fun y hy => (List.mem_erase_of_ne (fun z => h1 (by rw [← z]; exact hy))).mpr (hs y (List.mem_cons_of_mem _ hy)))
    have h4 := List.length_erase_of_mem hx
    have h5 := List.length_pos_of_mem hx
    rw [List.length_cons]
    omega
theorem nd_in {xs : List Int32} {t : Nat} (hn : xs.Nodup) (h : ∀ x ∈ xs, vp_in x t) (ht : t < 2 ^ 31) : xs.length ≤ t := by
  have := nd_le xs ((List.range t).map nI) hn (fun x hx => by
    obtain ⟨j, hj, rfl⟩ := vp_in_of (h x hx) ht
    exact List.mem_map.mpr ⟨j, List.mem_range.mpr hj, rfl⟩)
  rw [List.length_map, List.length_range] at this
  exact this
theorem op_enter {l : Launch} (hl : l.stackTraces = false) (M : Mem) (o : Ou) {c : Nat} (a : Int32) (h : Inv c M) : OpV l 184 [.ref 0, .int a, .ref 63] 132 [.ref 11, .int a] c M o Int32.toInt64 := by
  have h' := h
  obtain ⟨n, t, e, m, dd, r, pl, rd, E, W, H, L, h1, h2, h3, h4, h5⟩ := h
  obtain ⟨a1, a2, a3, a4, a5, a6, a7, a8, a9, a10, a11⟩ := id h1
  obtain ⟨t1, t2, t3, t4, t5, t6, t7, t8, t9, t10, t11, t12, t13, t14, t15, t16, t17, t18, t19, t20, t21, t22, t23⟩ := h3
  have hkk : cKE M a t ≤ 2 := by unfold cKE kEn; exact cond2 (ite2 (by decide) (by decide)) (by decide)
  have hm : ∀ q, q < 4 * t → vp_in (M 14 q) 32 := fun q hq => in32 a1 (a10 q hq)
  have hm' : ∀ q, q < 4 * t → vp_in (M 37 q) 32 := by rw [← a9]; exact hm
  have hnd : vp_in a t → a ∉ E → (E ++ [a]).Nodup ∧ E.length < 8 := by
    intro hv hne
    have hn : (E ++ [a]).Nodup := by
      refine List.nodup_append.mpr ⟨t16, by simp, fun x hx y hy hxy => ?_⟩
      rw [List.mem_singleton] at hy
      exact hne (by rw [← hy, ← hxy]; exact hx)
    have := nd_in hn (fun x hx => (List.mem_append.mp hx).elim (fun z => t17 x z) (fun z => by rw [List.mem_singleton.mp z]; exact hv)) (by omega)
    rw [List.length_append] at this
    have : E.length + 1 ≤ t := this
    exact ⟨hn, by omega⟩
  have hsum : mSum M a = cSum M a := by unfold mSum cSum; rw [a7, a9]
  have hke : mKE M a t = cKE M a t := by unfold mKE cKE; rw [t7, t8]
  have hw := w_enter hl M o a (by decide) (c_X7_enter hl M o a a4 a2 hm t5 t6 t1 (fun hv hne => (hnd hv hne).2))
  have hcM : ∀ o, Ct l 20 0 132 [.ref 11, .int a] M o (mF (cKE M a t) (enV a (cSum M a) (M 3 6) E) (enM a (cSum M a) (M 3 6) E (mset (mset (thr M 0) 38 E.length a) 11 13 (nI (E.length + 1))) (thr M 0)) M o) nX := fun o => by
    have := c_X8_enter hl M o a a6 a2 hm' t13.1 (fun hv hne => (hnd hv hne).2)
    rw [hke, hsum, ← t9, show mEn (thr M 0) E a = enM a (mSum M a) (M 11 8) E (mset (mset (thr M 0) 38 E.length a) 11 13 (nI (E.length + 1))) (thr M 0) from rfl, hsum, ← t9] at this
    exact this
  by_cases hin : a ∉ E ∧ cSum M a ≤ M 3 6
  · have e1 : cEn M E a = mset (mset M 16 E.length a) 4 1 (nI (E.length + 1)) := by unfold cEn enM; rw [if_neg hin.1, if_pos hin.2]
    have e2 : enV a (cSum M a) (M 3 6) E = nI (E.length + 1) := by unfold enV; rw [if_neg hin.1, if_pos hin.2]
    rw [e1, e2] at hw
    refine op_mk (M1' := mset (mset (thr (mset (mset M 16 E.length a) 4 1 (nI (E.length + 1))) 0) 38 E.length a) 11 13 (nI (E.length + 1))) hkk hw (fun hk => ⟨fun o => ?_, ?_, rfl⟩) (fun hk => ⟨fun o => ⟨_, _, hcM o⟩, inv_thr h'⟩)
    · have := c_X8_enter hl (mset (mset M 16 E.length a) 4 1 (nI (E.length + 1))) o a (n := t) (E := E) a6 a2 hm' t13.1 (fun hv hne => (hnd hv hne).2)
      rw [show mKE (mset (mset M 16 E.length a) 4 1 (nI (E.length + 1))) a t = mKE M a t from rfl, hke, show mSum (mset (mset M 16 E.length a) 4 1 (nI (E.length + 1))) a = mSum M a from rfl, hsum, show (mset (mset M 16 E.length a) 4 1 (nI (E.length + 1))) 11 8 = M 3 6 from t9.symm, e2] at this
      have e3 : mEn (thr (mset (mset M 16 E.length a) 4 1 (nI (E.length + 1))) 0) E a = mset (mset (thr (mset (mset M 16 E.length a) 4 1 (nI (E.length + 1))) 0) 38 E.length a) 11 13 (nI (E.length + 1)) := by
        show enM a (mSum M a) (M 11 8) E _ _ = _
        unfold enM
        rw [hsum, ← t9, if_neg hin.1, if_pos hin.2]
      rw [e3] at this
      exact this
    · unfold cKE kEn at hk
      obtain ⟨hk1, hk2⟩ := cond0 hk (by decide)
      have hu := (ite0 hk2 (by decide)).1
      have hv := inB_e hk1
      obtain ⟨n1, n2⟩ := hnd hv hin.1
      obtain ⟨u1, u2, u3, u4⟩ := t21 hu.2
      subst u1 u2 u3
      obtain ⟨r1, r2, r3, r4, r5, r6, r7⟩ := t13
      have hE' : Lst (upd (M 16) E.length a) (nI (E.length + 1)) (E ++ [a]) := Lst.app t1 n2 a
      have hE2 : Lst (upd (M 38) E.length a) (nI (E.length + 1)) (E ++ [a]) := Lst.app r1 n2 a
      have hv8 : ∀ x ∈ E ++ [a], vp_in x 8 := fun x hx => (List.mem_append.mp hx).elim (fun z => r4 x z) (fun z => by rw [List.mem_singleton.mp z]; exact in_mono hv a2 (by decide))
      exact ⟨n, t, e, m, dd, r, pl, rd, E ++ [a], [], [], [], h1, h2, ⟨hE', t2, t3, t4, t5, t6, t7, t8, t9, t10, t11, t12, ⟨hE2, r2, r3, hv8, r5, r6, r7⟩, t14, t15, n1, fun x hx => (List.mem_append.mp hx).elim (fun z => t17 x z) (fun z => by rw [List.mem_singleton.mp z]; exact hv), t18, fun x hx => absurd hx List.not_mem_nil, t20, fun _ => ⟨rfl, rfl, rfl, u4⟩, t22, fun z => absurd hu.2 z⟩, StaI.up (c := c) h4, h5⟩
  · have hno : a ∈ E ∨ ¬ cSum M a ≤ M 3 6 := by
      by_cases w : a ∈ E
      · exact Or.inl w
      · exact Or.inr (fun z => hin ⟨w, z⟩)
    have hen : ∀ M1 M2 : Mem, enM a (cSum M a) (M 3 6) E M1 M2 = M2 := by
      intro M1 M2
      unfold enM
      by_cases w : a ∈ E
      · rw [if_pos w]
      · rw [if_neg w, if_neg (hno.resolve_left w)]
    have e1 : cEn M E a = M := hen _ _
    rw [e1] at hw
    have hcM2 := hcM
    rw [hen] at hcM2
    exact op_mk (M1' := thr M 0) hkk hw (fun hk => ⟨hcM2, inv_thr h', rfl⟩) (fun hk => ⟨fun o => ⟨_, _, hcM o⟩, inv_thr h'⟩)
