/-! THE LOGIC, PART 2: the world in the heap, and the checks that a program decides. -/
/-- where the world lies: addresses, classes, array classes (int, boolean, long), addresses of the texts -/
abbrev Th : Type := (Nat → Nat) × va_G × (ClassId × ClassId × ClassId) × (Nat → Nat)
def cv (θ : Th) : Value → Value
  | .ref i => .ref (θ.1 i)
  | v => v
def sv (θ : Th) (M : Mem) (i : Nat) : Nat → List Nat → List Value
  | _, [] => []
  | k, 0 :: r => .int (M i k) :: sv θ M i (k + 1) r
  | k, (t + 1) :: r => .ref (θ.1 t) :: sv θ M i (k + 1) r
def wc (θ : Th) (M : Mem) (o : Ou) (i : Nat) : va_E :=
  if clT i < 9 then .inr (clT i, sv θ M i 0 (slT i))
  else if clT i = 9 then .inl (θ.2.2.1.1, lenT i, .inl (M i))
  else if clT i = 10 then .inl (θ.2.2.1.2.1, lenT i, .inl (M i))
  else .inl (θ.2.2.1.2.2, lenT i, .inr (.inl o))
def wcs (θ : Th) (M : Mem) (o : Ou) : va_W := (List.range NO).map (fun i => (θ.1 i, wc θ M o i))
def tysOf (θ : Th) : List (ClassId × FieldType) := [(θ.2.2.1.1, .int), (θ.2.2.1.2.1, .boolean), (θ.2.2.1.2.2, .long)]
/-- the world's cells are apart, and of a kind -/
def apart (θ : Th) (A : Nat → Prop) : Prop := (∀ i j, i < NO → j < NO → θ.1 i = θ.1 j → i = j) ∧ ∀ i, i < NO → A (θ.1 i)
def Aset (θ : Th) (sz : Nat) : Nat → Prop := fun q => (∃ i, i < NO ∧ q = θ.1 i) ∨ sz ≤ q
theorem sv_int {θ : Th} {M : Mem} {i : Nat} : ∀ {L : List Nat} {b k : Nat}, L[k]? = some 0 → (sv θ M i b L)[k]? = some (.int (M i (b + k))) := by
  intro L
  induction L with
  | nil => intro b k h; simp at h
  | cons x t ih =>
    intro b k h
    cases k with
    | zero => simp at h; subst h; rfl
    | succ k =>
      have := ih (b := b + 1) (k := k) (by simpa using h)
      rw [show b + (k + 1) = b + 1 + k by omega]
      cases x <;> simpa [sv] using this
theorem sv_ref {θ : Th} {M : Mem} {i : Nat} : ∀ {L : List Nat} {b k r : Nat}, L[k]? = some (r + 1) → (sv θ M i b L)[k]? = some (.ref (θ.1 r)) := by
  intro L
  induction L with
  | nil => intro b k r h; simp at h
  | cons x t ih =>
    intro b k r h
    cases k with
    | zero => simp at h; subst h; rfl
    | succ k =>
      have := ih (b := b + 1) (k := k) (r := r) (by simpa using h)
      cases x <;> simpa [sv] using this
theorem sv_len {θ : Th} {M : Mem} {i : Nat} : ∀ {L : List Nat} {b : Nat}, (sv θ M i b L).length = L.length := by
  intro L
  induction L with
  | nil => intro b; rfl
  | cons x t ih => intro b; cases x <;> simp [sv, ih]
theorem mset_same (M : Mem) (i k : Nat) (v : Int32) : mset M i k v i k = v := by simp [mset, upd]
theorem mset_obj {M : Mem} {i a : Nat} (k : Nat) (v : Int32) (h : a ≠ i) : mset M i k v a = M a := by simp [mset, h]
theorem mset_plc {M : Mem} {i k b : Nat} (v : Int32) (h : b ≠ k) : mset M i k v i b = M i b := by simp [mset, upd, h]
theorem mset_row (M : Mem) (i k : Nat) (v : Int32) : mset M i k v i = upd (M i) k v := by simp [mset]
theorem sv_past {θ : Th} {M : Mem} {i k : Nat} {v : Int32} : ∀ {L : List Nat} {b : Nat}, k < b → sv θ (mset M i k v) i b L = sv θ M i b L := by
  intro L
  induction L with
  | nil => intro b _; rfl
  | cons x t ih =>
    intro b h
    cases x with
    | zero => simp only [sv]; rw [ih (by omega), mset_plc v (by omega)]
    | succ x => simp only [sv]; rw [ih (by omega)]
theorem sv_set {θ : Th} {M : Mem} {i : Nat} {v : Int32} : ∀ {L : List Nat} {b k : Nat}, L[k]? = some 0 → sv θ (mset M i (b + k) v) i b L = (sv θ M i b L).set k (.int v) := by
  intro L
  induction L with
  | nil => intro b k h; simp at h
  | cons x t ih =>
    intro b k h
    cases k with
    | zero =>
      simp at h; subst h
      simp only [sv, Nat.add_zero, mset_same, List.set_cons_zero]
      rw [sv_past (by omega)]
    | succ k =>
      have := ih (b := b + 1) (k := k) (by simpa using h)
      rw [show b + 1 + k = b + (k + 1) by omega] at this
      cases x with
      | zero => simp only [sv, List.set_cons_succ, this]; rw [mset_plc v (by omega)]
      | succ x => simp only [sv, List.set_cons_succ, this]
theorem sv_other {θ : Th} {M : Mem} {i j k : Nat} {v : Int32} (h : j ≠ i) : ∀ {L : List Nat} {b : Nat}, sv θ (mset M i k v) j b L = sv θ M j b L := by
  intro L
  induction L with
  | nil => intro b; rfl
  | cons x t ih => intro b; cases x <;> simp only [sv, ih, mset_obj k v h]
theorem wc_other {θ : Th} {M : Mem} {o : Ou} {i j k : Nat} {v : Int32} (h : j ≠ i) : wc θ (mset M i k v) o j = wc θ M o j := by
  unfold wc
  rw [sv_other h, mset_obj k v h]
theorem wcs_get {θ : Th} {M : Mem} {o : Ou} {i : Nat} (h : i < NO) : (wcs θ M o)[i]? = some (θ.1 i, wc θ M o i) := by
  unfold wcs
  rw [List.getElem?_map, List.getElem?_range h]
  rfl
theorem wcs_len {θ : Th} {M : Mem} {o : Ou} : (wcs θ M o).length = NO := by simp [wcs]
theorem wcs_set {θ : Th} {M M' : Mem} {o o' : Ou} {i : Nat} {e : va_E} (hi : i < NO) (h1 : wc θ M' o' i = e) (h2 : ∀ j, j < NO → j ≠ i → wc θ M' o' j = wc θ M o j) : (wcs θ M o).set i (θ.1 i, e) = wcs θ M' o' := by
  apply List.ext_getElem?
  intro j
  by_cases hj : j < NO
  · rw [List.getElem?_set]
    by_cases e1 : i = j
    · subst e1
      rw [if_pos rfl, if_pos (by rw [wcs_len]; exact hi), wcs_get hi, h1]
    · rw [if_neg e1, wcs_get hj, wcs_get hj, h2 j hj (Ne.symm e1)]
  · rw [List.getElem?_eq_none (by rw [List.length_set, wcs_len]; omega), List.getElem?_eq_none (by rw [wcs_len]; omega)]
theorem wcs_addr {θ : Th} {M : Mem} {o : Ou} {k : Nat} {q : Nat × va_E} (h : (wcs θ M o)[k]? = some q) : k < NO ∧ q.1 = θ.1 k := by
  have hk : k < NO := by
    rcases Nat.lt_or_ge k NO with h1 | h1
    · exact h1
    · rw [List.getElem?_eq_none (by rw [wcs_len]; exact h1)] at h; cases h
  rw [wcs_get hk] at h
  cases h
  exact ⟨hk, rfl⟩
theorem apart.D {θ : Th} {A : Nat → Prop} (h : apart θ A) (M : Mem) (o : Ou) : va_D A (wcs θ M o) := by
  refine ⟨fun i j p q hp hq e => ?_, fun k q hq => ?_⟩
  · obtain ⟨h1, h2⟩ := wcs_addr hp
    obtain ⟨h3, h4⟩ := wcs_addr hq
    exact h.1 i j h1 h3 (by rw [← h2, ← h4]; exact e)
  · obtain ⟨h1, h2⟩ := wcs_addr hq
    rw [h2]; exact h.2 k h1
theorem wc_obj {θ : Th} {M : Mem} {o : Ou} {i : Nat} (h : clT i < 9) : wc θ M o i = .inr (clT i, sv θ M i 0 (slT i)) := by
  unfold wc; rw [if_pos h]
theorem wc_int {θ : Th} {M : Mem} {o : Ou} {i : Nat} (h : clT i = 9) : wc θ M o i = .inl (θ.2.2.1.1, lenT i, .inl (M i)) := by
  unfold wc; rw [if_neg (by omega), if_pos h]
theorem wc_bool {θ : Th} {M : Mem} {o : Ou} {i : Nat} (h : clT i = 10) : wc θ M o i = .inl (θ.2.2.1.2.1, lenT i, .inl (M i)) := by
  unfold wc; rw [if_neg (by omega), if_neg (by omega), if_pos h]
theorem wc_long {θ : Th} {M : Mem} {o : Ou} {i : Nat} (h : clT i = 11) : wc θ M o i = .inl (θ.2.2.1.2.2, lenT i, .inr (.inl o)) := by
  unfold wc; rw [if_neg (by omega), if_neg (by omega), if_neg (by omega)]
theorem clT_lt {i : Nat} (h : clT i < 99) : i < NO := by
  rcases Nat.lt_or_ge i NO with h1 | h1
  · exact h1
  · have : clT i = 99 := by unfold clT; rw [List.getD_eq_getElem?_getD, List.getElem?_eq_none (by simpa using h1)]; rfl
    omega
theorem clT_out : ∀ i, i < NO → clT i = 11 → i = OUT := by decide +kernel
theorem slT_len : ∀ i, i < NO → clT i < 9 → (slT i).length = nfT (clT i) := by decide +kernel
theorem cls_ok : ∀ ci, ci < 9 → vwCl[ci]? = some (cnm ci, TT ci, nfT ci) := by
  intro ci h
  match ci, h with
  | 0, _ => rfl
  | 1, _ => rfl
  | 2, _ => rfl
  | 3, _ => rfl
  | 4, _ => rfl
  | 5, _ => rfl
  | 6, _ => rfl
  | 7, _ => rfl
  | 8, _ => rfl
theorem ty_ok : ∀ ci, ci < 9 → ∀ k, k < nfT ci → parseFieldDescriptor (TT ci k).2.2.1 = some (tyT ci k) := by
  intro ci h
  match ci, h with
  | 0, _ => exact tyX0_ok
  | 1, _ => exact tyX1_ok
  | 2, _ => exact tyX2_ok
  | 3, _ => exact tyX3_ok
  | 4, _ => exact tyX4_ok
  | 5, _ => exact tyX5_ok
  | 6, _ => exact tyX6_ok
  | 7, _ => exact tyX7_ok
  | 8, _ => exact tyX8_ok
theorem nm_ok : ∀ ci, ci < 9 → ∀ a, a < nfT ci → ∀ b, b < nfT ci → a ≠ b → (TT ci a).2.1 ≠ (TT ci b).2.1 := by
  intro ci h
  match ci, h with
  | 0, _ => exact nmX0
  | 1, _ => exact nmX1
  | 2, _ => exact nmX2
  | 3, _ => exact nmX3
  | 4, _ => exact nmX4
  | 5, _ => exact nmX5
  | 6, _ => exact nmX6
  | 7, _ => exact nmX7
  | 8, _ => exact nmX8
/-! words -/
def GW : List Cond := lw_tbl.filter goodWord
theorem gw_of {p : Nat} {w : Cond} (h : lw_tbl[p]? = some w) (g : goodWord w = true) : w ∈ GW := List.mem_filter.mpr ⟨List.mem_of_getElem? h, g⟩
theorem GW_good : ∀ w ∈ GW, (w.onTables && w.keeps) = true ∨ ∃ ty, w = .arrayClass ty := fun w h => good_of_word (List.mem_filter.mp h).2
def wFL (q : Nat × Nat × Nat × Nat) : Cond := .fieldLink (cnm q.1) q.2.1 (cnm q.2.2.1) (TT q.2.2.1 q.2.2.2).2.1 (TT q.2.2.1 q.2.2.2).2.2.1
def wML (q : Nat × Nat × Nat) : Cond := .methodLink (cnm q.1) q.2.1 (yT q.2.2)
def atP (l : List Cond) (p : Nat) (w : Cond) : Bool := decide (l[p]? = some w)
theorem zip_ok {α : Type} {f : α → Cond} {L : List α} {P : List Nat} (hl : P.length = L.length) (h : (L.zip P).all (fun q => atP lw_tbl q.2 (f q.1)) = true) (hg : ∀ a, goodWord (f a) = true) : ∀ a ∈ L, f a ∈ GW := by
  intro a ha
  obtain ⟨i, hi⟩ := List.getElem?_of_mem ha
  have hlt : i < L.length := (List.getElem?_eq_some_iff.mp hi).1
  obtain ⟨p, hp⟩ : ∃ p, P[i]? = some p := ⟨P[i]'(by omega), List.getElem?_eq_getElem (by omega)⟩
  have hz : (a, p) ∈ L.zip P := by
    have : (L.zip P)[i]? = some (a, p) := by rw [List.getElem?_zip_eq_some]; exact ⟨hi, hp⟩
    exact List.mem_of_getElem? this
  have := List.all_eq_true.mp h _ hz
  exact gw_of (of_decide_eq_true this) (hg a)
theorem FL_ok : ∀ q ∈ FL, wFL q ∈ GW := zip_ok (by decide +kernel) (by decide +kernel : (FL.zip FLp).all (fun q => atP lw_tbl q.2 (wFL q.1)) = true) (fun _ => rfl)
theorem ML_ok : ∀ q ∈ ML, wML q ∈ GW := zip_ok (by decide +kernel) (by decide +kernel : (ML.zip MLp).all (fun q => atP lw_tbl q.2 (wML q.1)) = true) (fun _ => rfl)
theorem FL_lt : ∀ q ∈ FL, q.2.2.1 < 9 ∧ q.2.2.2 < nfT q.2.2.1 := by decide +kernel
theorem UW_all : (List.range 9).all (fun ci => decide ((u_ws (cnm ci) (TT ci) (nfT ci)).map some = (UWp ci).map (fun p => lw_tbl[p]?)) && (u_ws (cnm ci) (TT ci) (nfT ci)).all goodWord) = true := by decide +kernel
theorem UW_ok : ∀ ci, ci < 9 → ∀ w ∈ u_ws (cnm ci) (TT ci) (nfT ci), w ∈ GW := by
  intro ci h w hw
  have h1 := List.all_eq_true.mp UW_all ci (List.mem_range.mpr h)
  rw [Bool.and_eq_true] at h1
  have h2 := of_decide_eq_true h1.1
  have h3 : some w ∈ (UWp ci).map (fun p => lw_tbl[p]?) := by rw [← h2]; exact List.mem_map.mpr ⟨w, hw, rfl⟩
  obtain ⟨p, -, hp⟩ := List.mem_map.mp h3
  exact gw_of hp (List.all_eq_true.mp h1.2 w hw)
/-- the first word of a method -/
def wCode (i : Nat) : Cond := match hhT i with
  | none => .code (yT i) (bT i) (mlT i) (rtT i)
  | some hh => .codeWith (yT i) (bT i) (mlT i) (rtT i) hh
def mfOk (i : Nat) : Bool := match kdT i with
  | 0 => true
  | 1 => atP lw_tbl ((MFp i).getD 1 0) (.instanceMethod (yT i)) && atP lw_tbl ((MFp i).getD 2 0) (.selects (yT i).cls (yT i) (yT i)) && atP lw_tbl ((MFp i).getD 3 0) (.initialized (yT i).cls)
  | _ => atP lw_tbl ((MFp i).getD 1 0) (.static (yT i)) && atP lw_tbl ((MFp i).getD 3 0) (.initialized (yT i).cls)
theorem mf_all : (List.range NMT).all mfOk = true := by decide +kernel
/-- plain facts of the methods' names -/
def nmOk (i : Nat) : Bool := kdT i == 0 || (plainName (yT i).cls && decide ((yT i).cls = cnm (owT i)) && decide ((yT i).cls ≠ "java/lang/invoke/MethodHandle") && decide ((yT i).cls ≠ "java/lang/invoke/VarHandle") && decide ((parseMethodDescriptor (yT i).desc).map (fun d => d.parameters.length) = some (npT i)) && decide (mlT i ≤ 40))
theorem nm_all : (List.range NMT).all nmOk = true := by decide +kernel
theorem wCode_good (i : Nat) : goodWord (wCode i) = true := by unfold wCode; split <;> rfl
