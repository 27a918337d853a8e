/-! the start, and all calls -/
def σ0 : St := ((fun _ _ => 0, (fun _ _ => 0, (fun _ _ _ => 0, fun _ _ _ => 0))), fun _ _ => 0)
theorem ok_0 : OKs σ0 :=
  ⟨⟨Nat.zero_le _, Nat.zero_le _, Nat.zero_le _, Nat.zero_le _, fun _ => ⟨rfl, rfl, rfl⟩, fun h => h, fun _ => Nat.zero_le _, fun i hi => absurd hi (Nat.not_lt_zero _)⟩, ⟨fun p hp => absurd hp (Nat.not_lt_zero _), Nat.zero_le _, Nat.zero_le _⟩, ⟨Nat.zero_le _, fun j hj => absurd hj (Nat.not_lt_zero _)⟩, show 0 < 20 by decide, show 0 < 2 ^ 31 by decide, ⟨Nat.zero_le _, fun j hj => absurd hj (Nat.not_lt_zero _)⟩, ⟨Nat.zero_le _, fun j hj => absurd hj (Nat.not_lt_zero _)⟩, ⟨Nat.zero_le _, fun j hj => absurd hj (Nat.not_lt_zero _)⟩, fun i hi => ⟨Nat.zero_le _, fun w => absurd (show (0 : Nat) = 1 from w) (by decide)⟩⟩
set_option maxRecDepth 100000 in
theorem ci_0 : CI 3 (u_X10_107 (u_X9_0 μ0)) σ0 :=
  ⟨⟨rfl, rfl, rfl, rfl, rfl, ⟨0, by decide, rfl, fun c hc => ⟨fun _ => rfl, fun h => absurd h (by decide)⟩⟩, fun i hi => absurd hi (Nat.not_lt_zero _)⟩, ⟨fun i hi => ⟨rfl, rfl⟩, rfl, rfl⟩, ⟨rfl, rfl, fun j hj => absurd hj (Nat.not_lt_zero _)⟩, rfl, ⟨rfl, fun j hj => absurd hj (Nat.not_lt_zero _)⟩, ⟨rfl, fun j hj => absurd hj (Nat.not_lt_zero _)⟩, ⟨rfl, fun j hj => absurd hj (Nat.not_lt_zero _)⟩, fun i hi => by
    have : i = 0 ∨ i = 1 := by omega
    rcases this with rfl | rfl
    · exact ⟨rfl, fun w => absurd (show (0 : Nat) = 1 from w) (by decide)⟩
    · exact ⟨rfl, fun w => absurd (show (0 : Nat) = 1 from w) (by decide)⟩⟩
set_option maxRecDepth 100000 in
theorem mi_0 : MI (u_X10_107 (u_X9_0 μ0)) σ0 :=
  ⟨⟨rfl, rfl, fun c hc => rfl, rfl, rfl, fun i hi => absurd hi (Nat.not_lt_zero _)⟩, ⟨fun p hp => absurd hp (Nat.not_lt_zero _), rfl, rfl⟩, ⟨rfl, fun j hj => absurd hj (Nat.not_lt_zero _)⟩, rfl, ⟨rfl, fun j hj => absurd hj (Nat.not_lt_zero _)⟩, ⟨rfl, fun j hj => absurd hj (Nat.not_lt_zero _)⟩, ⟨rfl, fun j hj => absurd hj (Nat.not_lt_zero _)⟩, fun i hi => ⟨rfl, fun w => absurd (show (0 : Nat) = 1 from w) (by decide)⟩⟩
set_option maxRecDepth 100000 in
theorem inv_0 : Inv (u_X10_107 (u_X9_0 μ0)) := ⟨σ0, 3, 11, Or.inl ⟨rfl, rfl⟩, RFt_0.symm, ok_0, ci_0, mi_0, rfl⟩
theorem sp_all : SpAll Inv := ⟨st_feed, st_house, st_fault, st_told, st_cell, st_item, st_votes, st_vote, st_session, st_drift, st_undo, st_rests, st_pool, st_tips, st_fewest, st_carry, st_waltz, st_recount, st_see, st_stood, st_look, st_write, st_tear, st_judge, st_seed, st_keep, st_goBack⟩
theorem whole_start {p : Program} {e : Env} {s : State} {m : MethodId} {below : List Frame} {meth : Method} {c : Code} (l : Launch) {b L : Nat} {xs : Nat → Int32} (hL : L ≤ 2048) (C0 : lw_At p s m meth c b L xs) : W p l e room_1 s m #[Value.ref b] below meth c s.heap [] 0 0 (lw_Z below #[Value.ref b] s) (entryFrame m ([Value.ref b] : List Value).toArray 4) := law_start l hL C0 sp_all inv_0
