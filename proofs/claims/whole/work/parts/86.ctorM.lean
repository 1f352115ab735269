/-! THE CONSTRUCTOR of the reference: its world, by program -/
def adX11 (h0 : Nat) (q1 : Nat) (q2 : Nat) (q3 : Nat) (q4 : Nat) (q5 : Nat) (q6 : Nat) (q7 : Nat) (q8 : Nat) (q9 : Nat) (q10 : Nat) (q11 : Nat) (q12 : Nat) (q13 : Nat) (q14 : Nat) (q15 : Nat) (q16 : Nat) (q17 : Nat) (q18 : Nat) : Nat → Nat := fun j => ([h0, q1, q2, q3, q4, q5, q6, q7, q8, q9, q10, q11, q12, q13, q14, q15, q16, q17, q18] : List Nat).getD j 0
def jsX11 : List Nat := [0, 1, 2, 3, 4, 5, 6, 7, 8, 9, 10, 11, 12, 13, 14, 15, 16, 17, 18]
set_option maxRecDepth 100000 in
theorem zfsM (ad : Nat → Nat) : zfs 1 ad zT0 0 = [.int 0, .int 0, .ref (ad 1), .ref (ad 2), .ref (ad 3), .int 0, .ref (ad 4), .int 0, .int 0, .int 0, .ref (ad 5), .int 0, .ref (ad 6), .ref (ad 7), .ref (ad 8), .ref (ad 9), .int 0, .int 0, .ref (ad 10), .int 0, .ref (ad 11), .ref (ad 12), .ref (ad 13), .ref (ad 14), .ref (ad 15), .ref (ad 16), .ref (ad 17), .ref (ad 18)] := by
  show List.mapIdx (fun k d => zfv ad zT0 0 k d) [0, 0, 4, 5, 6, 0, 7, 0, 0, 0, 8, 0, 9, 10, 11, 12, 0, 0, 13, 0, 14, 15, 16, 17, 18, 19, 20, 21] = _
  simp only [List.mapIdx_cons, List.mapIdx_nil]
  rfl
theorem zcM_1 (g : zG) (ad : Nat → Nat) : zcell g 1 ad zT0 1 = .inl (g.1, 4, .inl (fun i => if i < 4 then -9 else 0)) := by
  exact zcell_I (by decide) (by decide)
theorem zcM_2 (g : zG) (ad : Nat → Nat) : zcell g 1 ad zT0 2 = .inl (g.1, 4, .inl (fun _ => 0)) := by
  exact zcell_I (by decide) (by decide)
theorem zcM_3 (g : zG) (ad : Nat → Nat) : zcell g 1 ad zT0 3 = .inl (g.1, 480, .inl (fun _ => 0)) := by
  exact zcell_I (by decide) (by decide)
theorem zcM_4 (g : zG) (ad : Nat → Nat) : zcell g 1 ad zT0 4 = .inl (g.1, 72, .inl (fun _ => 0)) := by
  exact zcell_I (by decide) (by decide)
theorem zcM_5 (g : zG) (ad : Nat → Nat) : zcell g 1 ad zT0 5 = .inl (g.1, 72, .inl (fun _ => 0)) := by
  exact zcell_I (by decide) (by decide)
theorem zcM_6 (g : zG) (ad : Nat → Nat) : zcell g 1 ad zT0 6 = .inl (g.1, 4, .inl (fun _ => 0)) := by
  exact zcell_I (by decide) (by decide)
theorem zcM_7 (g : zG) (ad : Nat → Nat) : zcell g 1 ad zT0 7 = .inl (g.1, 4, .inl (fun _ => 0)) := by
  exact zcell_I (by decide) (by decide)
theorem zcM_8 (g : zG) (ad : Nat → Nat) : zcell g 1 ad zT0 8 = .inl (g.2.1, 6, .inr (.inl (fun _ => 0))) := by
  exact zcell_J (by decide) (by decide)
theorem zcM_9 (g : zG) (ad : Nat → Nat) : zcell g 1 ad zT0 9 = .inl (g.2.1, 6, .inr (.inl (fun _ => 0))) := by
  exact zcell_J (by decide) (by decide)
theorem zcM_10 (g : zG) (ad : Nat → Nat) : zcell g 1 ad zT0 10 = .inl (g.1, 36, .inl (fun _ => 0)) := by
  exact zcell_I (by decide) (by decide)
theorem zcM_11 (g : zG) (ad : Nat → Nat) : zcell g 1 ad zT0 11 = .inl (g.1, 6, .inl (fun _ => 0)) := by
  exact zcell_I (by decide) (by decide)
theorem zcM_12 (g : zG) (ad : Nat → Nat) : zcell g 1 ad zT0 12 = .inl (g.1, 6, .inl (fun _ => 0)) := by
  exact zcell_I (by decide) (by decide)
theorem zcM_13 (g : zG) (ad : Nat → Nat) : zcell g 1 ad zT0 13 = .inl (g.1, 6, .inl (fun _ => 0)) := by
  exact zcell_I (by decide) (by decide)
theorem zcM_14 (g : zG) (ad : Nat → Nat) : zcell g 1 ad zT0 14 = .inl (g.1, 6, .inl (fun _ => 0)) := by
  exact zcell_I (by decide) (by decide)
theorem zcM_15 (g : zG) (ad : Nat → Nat) : zcell g 1 ad zT0 15 = .inl (g.1, 6, .inl (fun _ => 0)) := by
  exact zcell_I (by decide) (by decide)
theorem zcM_16 (g : zG) (ad : Nat → Nat) : zcell g 1 ad zT0 16 = .inl (g.2.1, 8, .inr (.inl (fun _ => 0))) := by
  exact zcell_J (by decide) (by decide)
theorem zcM_17 (g : zG) (ad : Nat → Nat) : zcell g 1 ad zT0 17 = .inl (g.1, 12300, .inl (fun _ => 0)) := by
  exact zcell_I (by decide) (by decide)
theorem zcM_18 (g : zG) (ad : Nat → Nat) : zcell g 1 ad zT0 18 = .inl (g.1, 9, .inl (fun _ => 0)) := by
  exact zcell_I (by decide) (by decide)
set_option maxRecDepth 100000 in
theorem zwX11 (g : zG) (h0 : Nat) (q1 : Nat) (q2 : Nat) (q3 : Nat) (q4 : Nat) (q5 : Nat) (q6 : Nat) (q7 : Nat) (q8 : Nat) (q9 : Nat) (q10 : Nat) (q11 : Nat) (q12 : Nat) (q13 : Nat) (q14 : Nat) (q15 : Nat) (q16 : Nat) (q17 : Nat) (q18 : Nat) : zWs g 1 (adX11 h0 q1 q2 q3 q4 q5 q6 q7 q8 q9 q10 q11 q12 q13 q14 q15 q16 q17 q18) zT0 jsX11 = [(h0, .inr (11, [.int 0, .int 0, .ref q1, .ref q2, .ref q3, .int 0, .ref q4, .int 0, .int 0, .int 0, .ref q5, .int 0, .ref q6, .ref q7, .ref q8, .ref q9, .int 0, .int 0, .ref q10, .int 0, .ref q11, .ref q12, .ref q13, .ref q14, .ref q15, .ref q16, .ref q17, .ref q18])), (q1, .inl (g.1, 4, .inl (fun i => if i < 4 then -9 else 0))), (q2, .inl (g.1, 4, .inl (fun _ => 0))), (q3, .inl (g.1, 480, .inl (fun _ => 0))), (q4, .inl (g.1, 72, .inl (fun _ => 0))), (q5, .inl (g.1, 72, .inl (fun _ => 0))), (q6, .inl (g.1, 4, .inl (fun _ => 0))), (q7, .inl (g.1, 4, .inl (fun _ => 0))), (q8, .inl (g.2.1, 6, .inr (.inl (fun _ => 0)))), (q9, .inl (g.2.1, 6, .inr (.inl (fun _ => 0)))), (q10, .inl (g.1, 36, .inl (fun _ => 0))), (q11, .inl (g.1, 6, .inl (fun _ => 0))), (q12, .inl (g.1, 6, .inl (fun _ => 0))), (q13, .inl (g.1, 6, .inl (fun _ => 0))), (q14, .inl (g.1, 6, .inl (fun _ => 0))), (q15, .inl (g.1, 6, .inl (fun _ => 0))), (q16, .inl (g.2.1, 8, .inr (.inl (fun _ => 0)))), (q17, .inl (g.1, 12300, .inl (fun _ => 0))), (q18, .inl (g.1, 9, .inl (fun _ => 0)))] := by
  unfold zWs jsX11
  simp only [List.map_cons, List.map_nil]
  rw [zcell_ob (by decide), zfsM, zcM_1, zcM_2, zcM_3, zcM_4, zcM_5, zcM_6, zcM_7, zcM_8, zcM_9, zcM_10, zcM_11, zcM_12, zcM_13, zcM_14, zcM_15, zcM_16, zcM_17, zcM_18]
  rfl
