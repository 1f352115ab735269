/-! THE FIRST STATES are related -/
theorem inv0 : Inv zS0 zT0 := by
  refine ⟨0, fun _ _ _ => 0, 0, fun _ => 0, fun _ => 0, 0, 0, fun _ _ => 0, 0, fun _ => 0, fun _ => 0, fun _ => 0, fun _ => 0, fun _ => 0, fun k hk => ⟨Or.inl ⟨?_, ?_⟩, fun i hi => ?_⟩, ⟨Or.inl rfl, by decide, rfl, rfl, fun w hw a ha => absurd ha (Nat.not_lt_zero _)⟩, ⟨by decide, rfl, rfl, fun x hx => absurd hx (Nat.not_lt_zero _)⟩, ⟨by decide, by decide, rfl, rfl, rfl, rfl, fun h => absurd h (by decide)⟩, ⟨by decide, rfl, rfl, fun h => absurd h (Nat.lt_irrefl _), fun u hu => absurd hu (Nat.not_lt_zero _)⟩, ⟨Or.inl ⟨rfl, rfl⟩, Or.inl ⟨rfl, rfl⟩, fun f s m c hf hs hm1 hm hc h => ?_⟩, rfl, rfl⟩
  · show (if k < 4 then (-1 : Int32) else 0) = -1
    rw [if_pos hk]
  · show (if k < 4 then (-9 : Int32) else 0) = -9
    rw [if_pos hk]
  · show (if 12 + k = 17 then (if i < 4 then (-1 : Int32) else 0) else if 12 + k = 9 then (if i = 2 then -1 else 0) else 0) = 0
    rw [if_neg (by omega), if_neg (by omega)]
  · exact absurd h.symm (nI_m1 (by omega))
