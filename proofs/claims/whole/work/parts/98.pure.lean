def Rz : Nat → zsX → zsM → Prop := fun _ _ _ => True
theorem R_start : Rz 0 zx0 zm0 := trivial
theorem R_ops : OpsOK Rz := sorry
