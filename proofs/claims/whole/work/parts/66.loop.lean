/-! THE LAW: its loop. -/
theorem inv0 : Inv 0 M0 := by
  have nl : ∀ f : Nat → Int32, Lst f 0 [] := fun f => Lst.nil
  refine ⟨0, 0, 0, 0, 0, 0, fun _ => 0, fun _ => 0, [], [], [], [], ⟨by decide, by decide, rfl, rfl, rfl, rfl, rfl, fun p hp => absurd hp (Nat.not_lt_zero _), rfl, fun j hj => absurd hj (Nat.not_lt_zero _), fun p hp => Or.inl ⟨rfl, ?_⟩⟩, ⟨by decide, rfl, rfl, rfl⟩, ⟨nl _, nl _, nl _, nl _, bz0, bz0, rfl, rfl, rfl, rfl, rfl, rfl, ⟨nl _, nl _, nl _, fun x hx => absurd hx List.not_mem_nil, fun x hx => absurd hx List.not_mem_nil, fun x hx => absurd hx List.not_mem_nil, by decide⟩, ⟨nl _, nl _, rfl, Nat.zero_le _⟩, fun j hj => absurd hj (Nat.not_lt_zero _), List.nodup_nil, fun x hx => absurd hx List.not_mem_nil, List.nodup_nil, fun x hx => absurd hx List.not_mem_nil, fun j hj => absurd hj (Nat.not_lt_zero _), fun _ => ⟨rfl, rfl, rfl, rfl⟩, fun z => absurd rfl z, fun z => absurd rfl z⟩, ⟨by decide, rfl, rfl, rfl, fun p => Nat.zero_le _, ⟨fun k _ => rfl, fun k _ => rfl⟩, ⟨fun k _ => rfl, fun k _ => rfl⟩, fun k hk => absurd hk (Nat.not_lt_zero _), fun k _ => Nat.zero_le _, fun k _ _ => ⟨rfl, rfl⟩, rfl, by decide, rfl, rfl, rfl⟩, ⟨by decide, rfl, rfl, rfl, rfl, rfl, rfl, rfl, rfl, rfl, rfl, rfl, bz0, rfl, fun i hi => absurd hi (Nat.not_lt_zero _)⟩⟩
  show (if p < 32 then (-1 : Int32) else 0) = -1
  rw [if_pos hp]
set_option maxRecDepth 16000 in
theorem law_body {l : Launch} (hl : l.stackTraces = false) (M : Mem) (o : Ou) {L : Nat} {xs : Nat → Int32} (hL : L ≤ 3072) {G : GG} (hG : BodyL l 200 4096 L xs G) : G 13 ls0 [] M0 o0 0 := by
  have key : ∀ f i c k M o x5 x6, i = 6 * c → L ≤ i + f → Inv c M → k ≤ 8 * c → G 14 [some (.ref SCR), some (.ref 0), some (.ref 11), some (.ref OUT), some (.int (nI i)), x5, x6] [] M o k := by
    intro f
    induction f with
    | zero => sorry
    | succ f ih => sorry
  sorry
