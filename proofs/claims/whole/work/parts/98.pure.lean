theorem zS0 {b r : Nat} : zSS b r zs0 (zUn zf0 0) := by
  refine ⟨0, ⟨⟨0, Nat.zero_le _, rfl, rfl, fun i hi => by omega⟩, ⟨[], ⟨rfl, fun i hi => by simp at hi⟩, ⟨rfl, fun i hi => by simp at hi⟩, by omega, by simp, fun c hc => by simp at hc, List.Pairwise.nil⟩, ⟨by omega, rfl, rfl, fun i hi => by omega⟩, ⟨fun i hi => by omega, fun i k hi => by omega⟩, rfl, rfl⟩, ⟨Or.inl rfl, rfl, rfl, rfl, 0, Nat.le_refl _, ⟨by omega, rfl, rfl, fun i hi => by omega, fun f hf => by omega⟩, Or.inl ⟨rfl, rfl, rfl, rfl⟩⟩, ⟨rfl, fun i hi => ⟨rfl, Or.inl rfl⟩⟩, ⟨rfl, fun _ => false, rfl, fun p hp => ⟨fun _ => rfl, fun h => Bool.noConfusion h⟩⟩, rfl⟩
theorem zR0 : zRR 0 zx0 zm0 := by
  refine ⟨zSS_cg zS0 ⟨fun i hi => ?_, fun _ _ _ => rfl⟩, ⟨0, rfl, by omega, rfl, fun i hi => by omega⟩, rfl, Or.inl ⟨rfl, rfl⟩, ⟨0, 0, by omega, by omega, rfl, rfl, rfl, fun j hj => by omega⟩⟩
  show upd zf0 12 (-5) i = 0
  rw [zu_n (fun e => by rw [e] at hi; unfold zin at hi; omega)]
  rfl
theorem R_start : zRR 0 zx0 zm0 := zR0
theorem R_ops : OpsOK zRR := ⟨op_add, op_wall, op_amount, op_begin, op_finish, op_endTurn, op_delay, op_move, op_strike, op_feed, op_power, op_cast, op_rest, op_fighter, op_turn, op_condition, op_area, op_way, op_entry, op_replayed, op_reason, op_account, op_back, op_image, op_undo, op_count, fun _ _ _ h => zRR_mono h⟩
