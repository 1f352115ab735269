/-! walks: X10_meant, X10_alike, X10_isKind, X10_isTired, X10_interpreter, X10_ofInterpreter, X10_tire, X10_carries, X10_otherWay, X10_returns, X10_isWhich, X10_greatestCommon, X10_inLeastTerms, X10_hands, X10_witness, X10_answers, X10_heard -/
theorem hX10_meant : yX10_meant.cls = RX10 ∧ yX10_meant.cls ≠ "java/lang/invoke/MethodHandle" ∧ yX10_meant.cls ≠ "java/lang/invoke/VarHandle" ∧ (parseMethodDescriptor yX10_meant.desc).map (fun d => d.parameters.length) = some 2 := by decide +kernel
set_option maxHeartbeats 4000000 in
set_option maxRecDepth 100000 in
theorem kX10_meant (l : Launch) (D : va_G) (g : zG) (ad : Nat → Nat) (σ : zSt) (x1 : Int32) (x2 : Int32) (o : Int32) (h : fX10_meant σ x1 x2 = some o) : zMi l D g 0 ad yX10_meant (Cond.code yX10_meant cX10_meant 3 (some .int) :: zws) (zRm 1) [.ref (ad 0), .int x1, .int x2] σ o σ := by
  refine z_enter_i (by decide) (Nat.le_of_ble_eq_true rfl) ?_
  intro p e s m below meth c A ls Q C hw hl hret
  obtain ⟨hx, hb, hml, hown, hts, hK, hA⟩ := id C
  have hown : s.vm.findClass RX10 = some m.cls := hown
  have C : zCx p c cX10_meant s _ RX10 m 3 A s.heap D g := C
  have hl : lv_has ls 3 [(0, .ref (ad 0)), (1, .int x1), (2, .int x2)] := hl
  unfold fX10_meant at h
  refine lv_aload_n hx hb dX10_meant_0 rfl (lv_at hl 0 rfl) ?_
  refine lv_iload_n hx hb dX10_meant_1 rfl (lv_at hl 2 rfl) ?_
  refine z_cVi (As := [.int x2]) (rest := []) ⟨hx, hb, hml, hown, hts⟩ hK hw hA (kX10_isWord l D g ad σ x2 _ rfl) (zcwV 1 hts zgoodIn zw_412 zw_414 zw_8 zw_52 zw_415 rfl rfl hX10_isWord ⟨Nat.le_of_ble_eq_true rfl, Nat.le_of_ble_eq_true rfl⟩) zO0_0 rfl hl.1 rfl (Nat.le_of_ble_eq_true rfl) dX10_meant_2 ⟨Nat.zero_le _, Nat.zero_le _⟩ (fun H locs hw => ?_)
  refine lv_if_ne (tgt := 10) hx hb dX10_meant_5 (by decide) (fun t1 => ?_) (fun t1 => ?_)
  · rw [if_neg t1] at h
    refine lv_iload_n hx hb dX10_meant_10 rfl (lv_at hl 1 rfl) ?_
    refine z_cSi (As := [.int x1]) (rest := []) ⟨hx, hb, hml, hown, hts⟩ hK hw hA (kX10_isWay l D g ad σ x1 _ rfl) (zcwS 1 hts zgoodIn zw_420 zw_421 zw_52 zw_422 rfl rfl hX10_isWay ⟨Nat.le_of_ble_eq_true rfl, Nat.le_of_ble_eq_true rfl⟩) rfl hl.1 rfl (Nat.le_of_ble_eq_true rfl) dX10_meant_11 ⟨Nat.zero_le _, Nat.zero_le _⟩ (fun H locs hw => ?_)
    refine lv_if_eq (tgt := 29) hx hb dX10_meant_14 (by decide) (fun t2 => ?_) (fun t2 => ?_)
    · rw [if_pos t2] at h
      refine lv_bipush (v := (-2)) hx hb dX10_meant_29 (by decide) ?_
      obtain rfl := Option.some.inj h
      exact hret _ _ _ _ hw rfl dX10_meant_31
    · rw [if_neg t2] at h
      refine lv_aload_n hx hb dX10_meant_17 rfl (lv_at hl 0 rfl) ?_
      refine z_getc hx hb hts zin_X10 hown hK hw zF0_0_2 (hts _ zw_298) dX10_meant_18 ?_
      refine lv_iload_n hx hb dX10_meant_21 rfl (lv_at hl 1 rfl) ?_
      refine lv_iload_n hx hb dX10_meant_22 rfl (lv_at hl 2 rfl) ?_
      obtain ⟨r3, e4, h⟩ := zbind h
      refine z_cVi (As := [.int x1, .int x2]) (rest := []) ⟨hx, hb, hml, hown, hts⟩ hK hw hA (kX8_meaning l D g ad σ x1 x2 r3 e4) (zcwV 2 hts zgoodIn zw_431 zw_432 zw_433 zw_56 zw_434 rfl rfl hX8_meaning ⟨Nat.le_of_ble_eq_true rfl, Nat.le_of_ble_eq_true rfl⟩) zO0_3 rfl hl.1 rfl (Nat.le_of_ble_eq_true rfl) dX10_meant_23 ⟨Nat.zero_le _, Nat.zero_le _⟩ (fun H locs hw => ?_)
      refine lv_goto (tgt := 31) hx hb dX10_meant_26 (by decide) ?_
      obtain rfl := Option.some.inj h
      exact hret _ _ _ _ hw rfl dX10_meant_31
  · rw [if_pos t1] at h
    refine lv_iconst (v := (-1)) hx hb dX10_meant_8 (by decide) ?_
    obtain rfl := Option.some.inj h
    exact hret _ _ _ _ hw rfl dX10_meant_9
theorem hX10_alike : yX10_alike.cls = RX10 ∧ yX10_alike.cls ≠ "java/lang/invoke/MethodHandle" ∧ yX10_alike.cls ≠ "java/lang/invoke/VarHandle" ∧ (parseMethodDescriptor yX10_alike.desc).map (fun d => d.parameters.length) = some 2 := by decide +kernel
set_option maxHeartbeats 4000000 in
set_option maxRecDepth 100000 in
theorem kX10_alike (l : Launch) (D : va_G) (g : zG) (ad : Nat → Nat) (σ : zSt) (x1 : Int32) (x2 : Int32) (o : Int32) (h : fX10_alike σ x1 x2 = some o) : zMi l D g 0 ad yX10_alike (Cond.code yX10_alike cX10_alike 3 (some .int) :: zws) (zRm 2) [.ref (ad 0), .int x1, .int x2] σ o σ := by
  refine z_enter_i (by decide) (Nat.le_of_ble_eq_true rfl) ?_
  intro p e s m below meth c A ls Q C hw hl hret
  obtain ⟨hx, hb, hml, hown, hts, hK, hA⟩ := id C
  have hown : s.vm.findClass RX10 = some m.cls := hown
  have C : zCx p c cX10_alike s _ RX10 m 3 A s.heap D g := C
  have hl : lv_has ls 3 [(0, .ref (ad 0)), (1, .int x1), (2, .int x2)] := hl
  unfold fX10_alike at h
  refine lv_aload_n hx hb dX10_alike_0 rfl (lv_at hl 0 rfl) ?_
  refine lv_iload_n hx hb dX10_alike_1 rfl (lv_at hl 2 rfl) ?_
  refine z_cVi (As := [.int x2]) (rest := []) ⟨hx, hb, hml, hown, hts⟩ hK hw hA (kX10_isWord l D g ad σ x2 _ rfl) (zcwV 1 hts zgoodIn zw_412 zw_414 zw_8 zw_52 zw_415 rfl rfl hX10_isWord ⟨Nat.le_of_ble_eq_true rfl, Nat.le_of_ble_eq_true rfl⟩) zO0_0 rfl hl.1 rfl (Nat.le_of_ble_eq_true rfl) dX10_alike_2 ⟨Nat.zero_le _, Nat.zero_le _⟩ (fun H locs hw => ?_)
  refine lv_if_ne (tgt := 10) hx hb dX10_alike_5 (by decide) (fun t1 => ?_) (fun t1 => ?_)
  · rw [if_neg t1] at h
    refine lv_iload_n hx hb dX10_alike_10 rfl (lv_at hl 1 rfl) ?_
    refine z_cSi (As := [.int x1]) (rest := []) ⟨hx, hb, hml, hown, hts⟩ hK hw hA (kX10_isWay l D g ad σ x1 _ rfl) (zcwS 1 hts zgoodIn zw_420 zw_421 zw_52 zw_422 rfl rfl hX10_isWay ⟨Nat.le_of_ble_eq_true rfl, Nat.le_of_ble_eq_true rfl⟩) rfl hl.1 rfl (Nat.le_of_ble_eq_true rfl) dX10_alike_11 ⟨Nat.zero_le _, Nat.zero_le _⟩ (fun H locs hw => ?_)
    refine lv_if_eq (tgt := 29) hx hb dX10_alike_14 (by decide) (fun t2 => ?_) (fun t2 => ?_)
    · rw [if_pos t2] at h
      refine lv_bipush (v := (-2)) hx hb dX10_alike_29 (by decide) ?_
      obtain rfl := Option.some.inj h
      exact hret _ _ _ _ hw rfl dX10_alike_31
    · rw [if_neg t2] at h
      refine lv_aload_n hx hb dX10_alike_17 rfl (lv_at hl 0 rfl) ?_
      refine z_getc hx hb hts zin_X10 hown hK hw zF0_0_2 (hts _ zw_298) dX10_alike_18 ?_
      refine lv_iload_n hx hb dX10_alike_21 rfl (lv_at hl 1 rfl) ?_
      refine lv_iload_n hx hb dX10_alike_22 rfl (lv_at hl 2 rfl) ?_
      obtain ⟨r3, e4, h⟩ := zbind h
      refine z_cVi (As := [.int x1, .int x2]) (rest := []) ⟨hx, hb, hml, hown, hts⟩ hK hw hA (kX8_sameMeaning l D g ad σ x1 x2 r3 e4) (zcwV 2 hts zgoodIn zw_439 zw_440 zw_441 zw_56 zw_442 rfl rfl hX8_sameMeaning ⟨Nat.le_of_ble_eq_true rfl, Nat.le_of_ble_eq_true rfl⟩) zO0_3 rfl hl.1 rfl (Nat.le_of_ble_eq_true rfl) dX10_alike_23 ⟨Nat.zero_le _, Nat.zero_le _⟩ (fun H locs hw => ?_)
      refine lv_goto (tgt := 31) hx hb dX10_alike_26 (by decide) ?_
      obtain rfl := Option.some.inj h
      exact hret _ _ _ _ hw rfl dX10_alike_31
  · rw [if_pos t1] at h
    refine lv_iconst (v := (-1)) hx hb dX10_alike_8 (by decide) ?_
    obtain rfl := Option.some.inj h
    exact hret _ _ _ _ hw rfl dX10_alike_9
theorem hX10_isKind : yX10_isKind.cls ≠ "java/lang/invoke/MethodHandle" ∧ yX10_isKind.cls ≠ "java/lang/invoke/VarHandle" ∧ (parseMethodDescriptor yX10_isKind.desc).map (fun d => d.parameters.length) = some 1 := by decide +kernel
set_option maxHeartbeats 4000000 in
set_option maxRecDepth 100000 in
theorem kX10_isKind (l : Launch) (D : va_G) (g : zG) (ad : Nat → Nat) (σ : zSt) (x0 : Int32) (o : Int32) (h : fX10_isKind x0 = o) : zMi l D g 0 ad yX10_isKind (Cond.code yX10_isKind cX10_isKind 1 (some .boolean) :: zws) (zRm 0) [.int x0] σ o σ := by
  refine z_enter_i (by decide) (Nat.le_of_ble_eq_true rfl) ?_
  intro p e s m below meth c A ls Q C hw hl hret
  obtain ⟨hx, hb, hml, hown, hts, hK, hA⟩ := id C
  have hown : s.vm.findClass RX10 = some m.cls := hown
  have C : zCx p c cX10_isKind s _ RX10 m 1 A s.heap D g := C
  have hl : lv_has ls 1 [(0, .int x0)] := hl
  unfold fX10_isKind at h
  refine lv_iload_n hx hb dX10_isKind_0 rfl (lv_at hl 0 rfl) ?_
  refine lv_if_lt (tgt := 13) hx hb dX10_isKind_1 (by decide) (fun t1 => ?_) (fun t1 => ?_)
  · rw [if_pos t1] at h
    refine lv_iconst (v := 0) hx hb dX10_isKind_13 (by decide) ?_
    subst h
    exact hret _ _ _ _ hw zb0 dX10_isKind_14
  · rw [if_neg t1] at h
    refine lv_iload_n hx hb dX10_isKind_4 rfl (lv_at hl 0 rfl) ?_
    refine lv_iconst (v := 2) hx hb dX10_isKind_5 (by decide) ?_
    refine lv_icmp_gt (tgt := 13) hx hb dX10_isKind_6 (by decide) (fun t2 => ?_) (fun t2 => ?_)
    · rw [if_pos t2] at h
      refine lv_iconst (v := 0) hx hb dX10_isKind_13 (by decide) ?_
      subst h
      exact hret _ _ _ _ hw zb0 dX10_isKind_14
    · rw [if_neg t2] at h
      refine lv_iconst (v := 1) hx hb dX10_isKind_9 (by decide) ?_
      refine lv_goto (tgt := 14) hx hb dX10_isKind_10 (by decide) ?_
      subst h
      exact hret _ _ _ _ hw zb1 dX10_isKind_14
theorem hX10_isTired : yX10_isTired.cls ≠ "java/lang/invoke/MethodHandle" ∧ yX10_isTired.cls ≠ "java/lang/invoke/VarHandle" ∧ (parseMethodDescriptor yX10_isTired.desc).map (fun d => d.parameters.length) = some 1 := by decide +kernel
set_option maxHeartbeats 4000000 in
set_option maxRecDepth 100000 in
theorem kX10_isTired (l : Launch) (D : va_G) (g : zG) (ad : Nat → Nat) (σ : zSt) (x0 : Int32) (o : Int32) (h : fX10_isTired x0 = o) : zMi l D g 0 ad yX10_isTired (Cond.code yX10_isTired cX10_isTired 1 (some .boolean) :: zws) (zRm 0) [.int x0] σ o σ := by
  refine z_enter_i (by decide) (Nat.le_of_ble_eq_true rfl) ?_
  intro p e s m below meth c A ls Q C hw hl hret
  obtain ⟨hx, hb, hml, hown, hts, hK, hA⟩ := id C
  have hown : s.vm.findClass RX10 = some m.cls := hown
  have C : zCx p c cX10_isTired s _ RX10 m 1 A s.heap D g := C
  have hl : lv_has ls 1 [(0, .int x0)] := hl
  unfold fX10_isTired at h
  refine lv_iload_n hx hb dX10_isTired_0 rfl (lv_at hl 0 rfl) ?_
  refine lv_if_lt (tgt := 14) hx hb dX10_isTired_1 (by decide) (fun t1 => ?_) (fun t1 => ?_)
  · rw [if_pos t1] at h
    refine lv_iconst (v := 0) hx hb dX10_isTired_14 (by decide) ?_
    subst h
    exact hret _ _ _ _ hw zb0 dX10_isTired_15
  · rw [if_neg t1] at h
    refine lv_iload_n hx hb dX10_isTired_4 rfl (lv_at hl 0 rfl) ?_
    refine lv_bipush (v := 9) hx hb dX10_isTired_5 (by decide) ?_
    refine lv_icmp_gt (tgt := 14) hx hb dX10_isTired_7 (by decide) (fun t2 => ?_) (fun t2 => ?_)
    · rw [if_pos t2] at h
      refine lv_iconst (v := 0) hx hb dX10_isTired_14 (by decide) ?_
      subst h
      exact hret _ _ _ _ hw zb0 dX10_isTired_15
    · rw [if_neg t2] at h
      refine lv_iconst (v := 1) hx hb dX10_isTired_10 (by decide) ?_
      refine lv_goto (tgt := 15) hx hb dX10_isTired_11 (by decide) ?_
      subst h
      exact hret _ _ _ _ hw zb1 dX10_isTired_15
theorem hX10_interpreter : yX10_interpreter.cls = RX10 ∧ yX10_interpreter.cls ≠ "java/lang/invoke/MethodHandle" ∧ yX10_interpreter.cls ≠ "java/lang/invoke/VarHandle" ∧ (parseMethodDescriptor yX10_interpreter.desc).map (fun d => d.parameters.length) = some 2 := by decide +kernel
set_option maxHeartbeats 4000000 in
set_option maxRecDepth 100000 in
theorem kX10_interpreter (l : Launch) (D : va_G) (g : zG) (ad : Nat → Nat) (σ : zSt) (x1 : Int32) (x2 : Int32) (o : Int32 × zSt) (h : fX10_interpreter σ x1 x2 = some o) : zMi l D g 0 ad yX10_interpreter (Cond.code yX10_interpreter cX10_interpreter 3 (some .int) :: zws) (zRm 1) [.ref (ad 0), .int x1, .int x2] σ o.1 o.2 := by
  refine z_enter_i (by decide) (Nat.le_of_ble_eq_true rfl) ?_
  intro p e s m below meth c A ls Q C hw hl hret
  obtain ⟨hx, hb, hml, hown, hts, hK, hA⟩ := id C
  have hown : s.vm.findClass RX10 = some m.cls := hown
  have C : zCx p c cX10_interpreter s _ RX10 m 3 A s.heap D g := C
  have hl : lv_has ls 3 [(0, .ref (ad 0)), (1, .int x1), (2, .int x2)] := hl
  unfold fX10_interpreter at h
  refine lv_iload_n hx hb dX10_interpreter_0 rfl (lv_at hl 1 rfl) ?_
  refine z_cSi (As := [.int x1]) (rest := []) ⟨hx, hb, hml, hown, hts⟩ hK hw hA (kX10_isKind l D g ad σ x1 _ rfl) (zcwS 1 hts zgoodIn zw_448 zw_449 zw_52 zw_450 rfl rfl hX10_isKind ⟨Nat.le_of_ble_eq_true rfl, Nat.le_of_ble_eq_true rfl⟩) rfl hl.1 rfl (Nat.le_of_ble_eq_true rfl) dX10_interpreter_1 ⟨Nat.zero_le _, Nat.zero_le _⟩ (fun H locs hw => ?_)
  refine lv_if_eq (tgt := 14) hx hb dX10_interpreter_4 (by decide) (fun t1 => ?_) (fun t1 => ?_)
  · rw [if_pos t1] at h
    refine lv_bipush (v := (-2)) hx hb dX10_interpreter_14 (by decide) ?_
    obtain rfl := Option.some.inj h
    exact hret _ _ _ _ hw rfl dX10_interpreter_16
  · rw [if_neg t1] at h
    refine lv_iload_n hx hb dX10_interpreter_7 rfl (lv_at hl 2 rfl) ?_
    refine z_cSi (As := [.int x2]) (rest := []) ⟨hx, hb, hml, hown, hts⟩ hK hw hA (kX10_isTired l D g ad σ x2 _ rfl) (zcwS 1 hts zgoodIn zw_451 zw_452 zw_52 zw_453 rfl rfl hX10_isTired ⟨Nat.le_of_ble_eq_true rfl, Nat.le_of_ble_eq_true rfl⟩) rfl hl.1 rfl (Nat.le_of_ble_eq_true rfl) dX10_interpreter_8 ⟨Nat.zero_le _, Nat.zero_le _⟩ (fun H locs hw => ?_)
    refine lv_if_ne (tgt := 17) hx hb dX10_interpreter_11 (by decide) (fun t2 => ?_) (fun t2 => ?_)
    · rw [if_neg t2] at h
      refine lv_aload_n hx hb dX10_interpreter_17 rfl (lv_at hl 0 rfl) ?_
      refine z_getc hx hb hts zin_X10 hown hK hw zF0_0_3 (hts _ zw_299) dX10_interpreter_18 ?_
      refine z_cVi (As := []) (rest := []) ⟨hx, hb, hml, hown, hts⟩ hK hw hA (kX2_isFull l D g ad σ _ rfl) (zcwV 0 hts zgoodIn zw_454 zw_455 zw_456 zw_57 zw_457 rfl rfl hX2_isFull ⟨Nat.le_of_ble_eq_true rfl, Nat.le_of_ble_eq_true rfl⟩) zO0_4 rfl hl.1 rfl (Nat.le_of_ble_eq_true rfl) dX10_interpreter_21 ⟨Nat.zero_le _, Nat.zero_le _⟩ (fun H locs hw => ?_)
      refine lv_if_eq (tgt := 32) hx hb dX10_interpreter_24 (by decide) (fun t3 => ?_) (fun t3 => ?_)
      · rw [if_pos t3] at h
        refine lv_aload_n hx hb dX10_interpreter_32 rfl (lv_at hl 0 rfl) ?_
        refine z_getc hx hb hts zin_X10 hown hK hw zF0_0_3 (hts _ zw_299) dX10_interpreter_33 ?_
        refine lv_iload_n hx hb dX10_interpreter_36 rfl (lv_at hl 1 rfl) ?_
        refine lv_iload_n hx hb dX10_interpreter_37 rfl (lv_at hl 2 rfl) ?_
        obtain ⟨r4, e5, h⟩ := zbind h
        refine z_cVi (As := [.int x1, .int x2]) (rest := []) ⟨hx, hb, hml, hown, hts⟩ hK hw hA (kX2_hire l D g ad σ x1 x2 r4 e5) (zcwV 2 hts zgoodIn zw_458 zw_459 zw_460 zw_57 zw_461 rfl rfl hX2_hire ⟨Nat.le_of_ble_eq_true rfl, Nat.le_of_ble_eq_true rfl⟩) zO0_4 rfl hl.1 rfl (Nat.le_of_ble_eq_true rfl) dX10_interpreter_38 ⟨Nat.zero_le _, Nat.zero_le _⟩ (fun H locs hw => ?_)
        obtain rfl := Option.some.inj h
        exact hret _ _ _ _ hw rfl dX10_interpreter_41
      · rw [if_neg t3] at h
        refine lv_bipush (v := (-4)) hx hb dX10_interpreter_27 (by decide) ?_
        refine lv_goto (tgt := 41) hx hb dX10_interpreter_29 (by decide) ?_
        obtain rfl := Option.some.inj h
        exact hret _ _ _ _ hw rfl dX10_interpreter_41
    · rw [if_pos t2] at h
      refine lv_bipush (v := (-2)) hx hb dX10_interpreter_14 (by decide) ?_
      obtain rfl := Option.some.inj h
      exact hret _ _ _ _ hw rfl dX10_interpreter_16
theorem hX10_ofInterpreter : yX10_ofInterpreter.cls = RX10 ∧ yX10_ofInterpreter.cls ≠ "java/lang/invoke/MethodHandle" ∧ yX10_ofInterpreter.cls ≠ "java/lang/invoke/VarHandle" ∧ (parseMethodDescriptor yX10_ofInterpreter.desc).map (fun d => d.parameters.length) = some 2 := by decide +kernel
set_option maxHeartbeats 4000000 in
set_option maxRecDepth 100000 in
theorem kX10_ofInterpreter (l : Launch) (D : va_G) (g : zG) (ad : Nat → Nat) (σ : zSt) (x1 : Int32) (x2 : Int32) (o : Int32) (h : fX10_ofInterpreter σ x1 x2 = some o) : zMi l D g 0 ad yX10_ofInterpreter (Cond.code yX10_ofInterpreter cX10_ofInterpreter 3 (some .int) :: zws) (zRm 1) [.ref (ad 0), .int x1, .int x2] σ o σ := by
  refine z_enter_i (by decide) (Nat.le_of_ble_eq_true rfl) ?_
  intro p e s m below meth c A ls Q C hw hl hret
  obtain ⟨hx, hb, hml, hown, hts, hK, hA⟩ := id C
  have hown : s.vm.findClass RX10 = some m.cls := hown
  have C : zCx p c cX10_ofInterpreter s _ RX10 m 3 A s.heap D g := C
  have hl : lv_has ls 3 [(0, .ref (ad 0)), (1, .int x1), (2, .int x2)] := hl
  unfold fX10_ofInterpreter at h
  refine lv_aload_n hx hb dX10_ofInterpreter_0 rfl (lv_at hl 0 rfl) ?_
  refine z_getc hx hb hts zin_X10 hown hK hw zF0_0_3 (hts _ zw_299) dX10_ofInterpreter_1 ?_
  refine lv_iload_n hx hb dX10_ofInterpreter_4 rfl (lv_at hl 1 rfl) ?_
  refine z_cVi (As := [.int x1]) (rest := []) ⟨hx, hb, hml, hown, hts⟩ hK hw hA (kX2_has l D g ad σ x1 _ rfl) (zcwV 1 hts zgoodIn zw_466 zw_467 zw_468 zw_57 zw_469 rfl rfl hX2_has ⟨Nat.le_of_ble_eq_true rfl, Nat.le_of_ble_eq_true rfl⟩) zO0_4 rfl hl.1 rfl (Nat.le_of_ble_eq_true rfl) dX10_ofInterpreter_5 ⟨Nat.zero_le _, Nat.zero_le _⟩ (fun H locs hw => ?_)
  refine lv_if_ne (tgt := 13) hx hb dX10_ofInterpreter_8 (by decide) (fun t1 => ?_) (fun t1 => ?_)
  · rw [if_neg t1] at h
    refine lv_iload_n hx hb dX10_ofInterpreter_13 rfl (lv_at hl 2 rfl) ?_
    refine lv_if_eq (tgt := 25) hx hb dX10_ofInterpreter_14 (by decide) (fun t2 => ?_) (fun t2 => ?_)
    · rw [if_pos t2] at h
      refine lv_iload_n hx hb dX10_ofInterpreter_25 rfl (lv_at hl 2 rfl) ?_
      refine lv_if_ne (tgt := 41) hx hb dX10_ofInterpreter_26 (by decide) (fun t3 => ?_) (fun t3 => ?_)
      · rw [if_neg t3] at h
        refine lv_aload_n hx hb dX10_ofInterpreter_41 rfl (lv_at hl 0 rfl) ?_
        refine z_getc hx hb hts zin_X10 hown hK hw zF0_0_3 (hts _ zw_299) dX10_ofInterpreter_42 ?_
        refine z_getc hx hb hts zin_X2 hown hK hw zF0_4_1 (hts _ zw_159) dX10_ofInterpreter_45 ?_
        refine lv_iload_n hx hb dX10_ofInterpreter_48 rfl (lv_at hl 1 rfl) ?_
        obtain ⟨v4, e5, h⟩ := zbind h
        refine z_iald hx hb hK hw e5 dX10_ofInterpreter_49 ?_
        obtain rfl := Option.some.inj h
        exact hret _ _ _ _ hw rfl dX10_ofInterpreter_50
      · rw [if_pos t3] at h
        refine lv_aload_n hx hb dX10_ofInterpreter_29 rfl (lv_at hl 0 rfl) ?_
        refine z_getc hx hb hts zin_X10 hown hK hw zF0_0_3 (hts _ zw_299) dX10_ofInterpreter_30 ?_
        refine z_getc hx hb hts zin_X2 hown hK hw zF0_4_0 (hts _ zw_157) dX10_ofInterpreter_33 ?_
        refine lv_iload_n hx hb dX10_ofInterpreter_36 rfl (lv_at hl 1 rfl) ?_
        obtain ⟨v6, e7, h⟩ := zbind h
        refine z_iald hx hb hK hw e7 dX10_ofInterpreter_37 ?_
        refine lv_goto (tgt := 50) hx hb dX10_ofInterpreter_38 (by decide) ?_
        obtain rfl := Option.some.inj h
        exact hret _ _ _ _ hw rfl dX10_ofInterpreter_50
    · rw [if_neg t2] at h
      refine lv_iload_n hx hb dX10_ofInterpreter_17 rfl (lv_at hl 2 rfl) ?_
      refine lv_iconst (v := 1) hx hb dX10_ofInterpreter_18 (by decide) ?_
      refine lv_icmp_eq (tgt := 25) hx hb dX10_ofInterpreter_19 (by decide) (fun t8 => ?_) (fun t8 => ?_)
      · rw [if_pos t8] at h
        refine lv_iload_n hx hb dX10_ofInterpreter_25 rfl (lv_at hl 2 rfl) ?_
        refine lv_if_ne (tgt := 41) hx hb dX10_ofInterpreter_26 (by decide) (fun t9 => ?_) (fun t9 => ?_)
        · rw [if_neg t9] at h
          refine lv_aload_n hx hb dX10_ofInterpreter_41 rfl (lv_at hl 0 rfl) ?_
          refine z_getc hx hb hts zin_X10 hown hK hw zF0_0_3 (hts _ zw_299) dX10_ofInterpreter_42 ?_
          refine z_getc hx hb hts zin_X2 hown hK hw zF0_4_1 (hts _ zw_159) dX10_ofInterpreter_45 ?_
          refine lv_iload_n hx hb dX10_ofInterpreter_48 rfl (lv_at hl 1 rfl) ?_
          obtain ⟨v10, e11, h⟩ := zbind h
          refine z_iald hx hb hK hw e11 dX10_ofInterpreter_49 ?_
          obtain rfl := Option.some.inj h
          exact hret _ _ _ _ hw rfl dX10_ofInterpreter_50
        · rw [if_pos t9] at h
          refine lv_aload_n hx hb dX10_ofInterpreter_29 rfl (lv_at hl 0 rfl) ?_
          refine z_getc hx hb hts zin_X10 hown hK hw zF0_0_3 (hts _ zw_299) dX10_ofInterpreter_30 ?_
          refine z_getc hx hb hts zin_X2 hown hK hw zF0_4_0 (hts _ zw_157) dX10_ofInterpreter_33 ?_
          refine lv_iload_n hx hb dX10_ofInterpreter_36 rfl (lv_at hl 1 rfl) ?_
          obtain ⟨v12, e13, h⟩ := zbind h
          refine z_iald hx hb hK hw e13 dX10_ofInterpreter_37 ?_
          refine lv_goto (tgt := 50) hx hb dX10_ofInterpreter_38 (by decide) ?_
          obtain rfl := Option.some.inj h
          exact hret _ _ _ _ hw rfl dX10_ofInterpreter_50
      · rw [if_neg t8] at h
        refine lv_bipush (v := (-2)) hx hb dX10_ofInterpreter_22 (by decide) ?_
        obtain rfl := Option.some.inj h
        exact hret _ _ _ _ hw rfl dX10_ofInterpreter_24
  · rw [if_pos t1] at h
    refine lv_iconst (v := (-1)) hx hb dX10_ofInterpreter_11 (by decide) ?_
    obtain rfl := Option.some.inj h
    exact hret _ _ _ _ hw rfl dX10_ofInterpreter_12
theorem hX10_tire : yX10_tire.cls = RX10 ∧ yX10_tire.cls ≠ "java/lang/invoke/MethodHandle" ∧ yX10_tire.cls ≠ "java/lang/invoke/VarHandle" ∧ (parseMethodDescriptor yX10_tire.desc).map (fun d => d.parameters.length) = some 2 := by decide +kernel
set_option maxHeartbeats 4000000 in
set_option maxRecDepth 100000 in
theorem kX10_tire (l : Launch) (D : va_G) (g : zG) (ad : Nat → Nat) (σ : zSt) (x1 : Int32) (x2 : Int32) (o : Int32 × zSt) (h : fX10_tire σ x1 x2 = some o) : zMi l D g 0 ad yX10_tire (Cond.code yX10_tire cX10_tire 4 (some .int) :: zws) (zRm 1) [.ref (ad 0), .int x1, .int x2] σ o.1 o.2 := by
  refine z_enter_i (by decide) (Nat.le_of_ble_eq_true rfl) ?_
  intro p e s m below meth c A ls Q C hw hl hret
  obtain ⟨hx, hb, hml, hown, hts, hK, hA⟩ := id C
  have hown : s.vm.findClass RX10 = some m.cls := hown
  have C : zCx p c cX10_tire s _ RX10 m 4 A s.heap D g := C
  have hl : lv_has ls 4 [(0, .ref (ad 0)), (1, .int x1), (2, .int x2)] := hl
  unfold fX10_tire at h
  refine lv_aload_n hx hb dX10_tire_0 rfl (lv_at hl 0 rfl) ?_
  refine z_getc hx hb hts zin_X10 hown hK hw zF0_0_3 (hts _ zw_299) dX10_tire_1 ?_
  refine lv_iload_n hx hb dX10_tire_4 rfl (lv_at hl 1 rfl) ?_
  refine z_cVi (As := [.int x1]) (rest := []) ⟨hx, hb, hml, hown, hts⟩ hK hw hA (kX2_has l D g ad σ x1 _ rfl) (zcwV 1 hts zgoodIn zw_466 zw_467 zw_468 zw_57 zw_469 rfl rfl hX2_has ⟨Nat.le_of_ble_eq_true rfl, Nat.le_of_ble_eq_true rfl⟩) zO0_4 rfl hl.1 rfl (Nat.le_of_ble_eq_true rfl) dX10_tire_5 ⟨Nat.zero_le _, Nat.zero_le _⟩ (fun H locs hw => ?_)
  refine lv_if_ne (tgt := 13) hx hb dX10_tire_8 (by decide) (fun t1 => ?_) (fun t1 => ?_)
  · rw [if_neg t1] at h
    refine lv_iload_n hx hb dX10_tire_13 rfl (lv_at hl 2 rfl) ?_
    refine z_cSi (As := [.int x2]) (rest := []) ⟨hx, hb, hml, hown, hts⟩ hK hw hA (kX10_isTired l D g ad σ x2 _ rfl) (zcwS 1 hts zgoodIn zw_451 zw_452 zw_52 zw_453 rfl rfl hX10_isTired ⟨Nat.le_of_ble_eq_true rfl, Nat.le_of_ble_eq_true rfl⟩) rfl hl.1 rfl (Nat.le_of_ble_eq_true rfl) dX10_tire_14 ⟨Nat.zero_le _, Nat.zero_le _⟩ (fun H locs hw => ?_)
    refine lv_if_ne (tgt := 23) hx hb dX10_tire_17 (by decide) (fun t2 => ?_) (fun t2 => ?_)
    · rw [if_neg t2] at h
      refine lv_aload_n hx hb dX10_tire_23 rfl (lv_at hl 0 rfl) ?_
      refine z_getc hx hb hts zin_X10 hown hK hw zF0_0_3 (hts _ zw_299) dX10_tire_24 ?_
      refine z_getc hx hb hts zin_X2 hown hK hw zF0_4_1 (hts _ zw_159) dX10_tire_27 ?_
      refine lv_iload_n hx hb dX10_tire_30 rfl (lv_at hl 1 rfl) ?_
      obtain ⟨v3, e4, h⟩ := zbind h
      refine z_iald hx hb hK hw e4 dX10_tire_31 ?_
      refine lv_istore_n (lv' := [(3, .int v3), (0, .ref (ad 0)), (1, .int x1), (2, .int x2)]) hx hb dX10_tire_32 rfl hl (by decide) rfl (fun ls hl => ?_)
      refine lv_aload_n hx hb dX10_tire_33 rfl (lv_at hl 1 rfl) ?_
      refine z_getc hx hb hts zin_X10 hown hK hw zF0_0_3 (hts _ zw_299) dX10_tire_34 ?_
      refine z_getc hx hb hts zin_X2 hown hK hw zF0_4_1 (hts _ zw_159) dX10_tire_37 ?_
      refine lv_iload_n hx hb dX10_tire_40 rfl (lv_at hl 2 rfl) ?_
      refine lv_iload_n hx hb dX10_tire_41 rfl (lv_at hl 3 rfl) ?_
      obtain ⟨s5, e6, h⟩ := zbind h
      refine z_iast hx hb hK hw e6 dX10_tire_42 (fun H locs hw => ?_)
      refine lv_iload_n hx hb dX10_tire_43 rfl (lv_at hl 0 rfl) ?_
      obtain rfl := Option.some.inj h
      exact hret _ _ _ _ hw rfl dX10_tire_44
    · rw [if_pos t2] at h
      refine lv_bipush (v := (-2)) hx hb dX10_tire_20 (by decide) ?_
      obtain rfl := Option.some.inj h
      exact hret _ _ _ _ hw rfl dX10_tire_22
  · rw [if_pos t1] at h
    refine lv_iconst (v := (-1)) hx hb dX10_tire_11 (by decide) ?_
    obtain rfl := Option.some.inj h
    exact hret _ _ _ _ hw rfl dX10_tire_12
theorem hX10_carries : yX10_carries.cls = RX10 ∧ yX10_carries.cls ≠ "java/lang/invoke/MethodHandle" ∧ yX10_carries.cls ≠ "java/lang/invoke/VarHandle" ∧ (parseMethodDescriptor yX10_carries.desc).map (fun d => d.parameters.length) = some 4 := by decide +kernel
set_option maxHeartbeats 4000000 in
set_option maxRecDepth 100000 in
theorem kX10_carries (l : Launch) (D : va_G) (g : zG) (ad : Nat → Nat) (σ : zSt) (x1 : Int32) (x2 : Int32) (x3 : Int32) (x4 : Int32) (o : Int32 × zSt) (h : fX10_carries σ x1 x2 x3 x4 = some o) : zMi l D g 0 ad yX10_carries (Cond.code yX10_carries cX10_carries 5 (some .int) :: zws) (zRm 3) [.ref (ad 0), .int x1, .int x2, .int x3, .int x4] σ o.1 o.2 := by
  refine z_enter_i (by decide) (Nat.le_of_ble_eq_true rfl) ?_
  intro p e s m below meth c A ls Q C hw hl hret
  obtain ⟨hx, hb, hml, hown, hts, hK, hA⟩ := id C
  have hown : s.vm.findClass RX10 = some m.cls := hown
  have C : zCx p c cX10_carries s _ RX10 m 5 A s.heap D g := C
  have hl : lv_has ls 5 [(0, .ref (ad 0)), (1, .int x1), (2, .int x2), (3, .int x3), (4, .int x4)] := hl
  unfold fX10_carries at h
  refine lv_aload_n hx hb dX10_carries_0 rfl (lv_at hl 0 rfl) ?_
  refine z_getc hx hb hts zin_X10 hown hK hw zF0_0_3 (hts _ zw_299) dX10_carries_1 ?_
  refine lv_iload_n hx hb dX10_carries_4 rfl (lv_at hl 1 rfl) ?_
  refine z_cVi (As := [.int x1]) (rest := []) ⟨hx, hb, hml, hown, hts⟩ hK hw hA (kX2_has l D g ad σ x1 _ rfl) (zcwV 1 hts zgoodIn zw_466 zw_467 zw_468 zw_57 zw_469 rfl rfl hX2_has ⟨Nat.le_of_ble_eq_true rfl, Nat.le_of_ble_eq_true rfl⟩) zO0_4 rfl hl.1 rfl (Nat.le_of_ble_eq_true rfl) dX10_carries_5 ⟨Nat.zero_le _, Nat.zero_le _⟩ (fun H locs hw => ?_)
  refine lv_if_eq (tgt := 28) hx hb dX10_carries_8 (by decide) (fun t1 => ?_) (fun t1 => ?_)
  · rw [if_pos t1] at h
    refine lv_iconst (v := (-1)) hx hb dX10_carries_28 (by decide) ?_
    obtain rfl := Option.some.inj h
    exact hret _ _ _ _ hw rfl dX10_carries_29
  · rw [if_neg t1] at h
    refine lv_aload_n hx hb dX10_carries_11 rfl (lv_at hl 0 rfl) ?_
    refine lv_iload_n hx hb dX10_carries_12 rfl (lv_at hl 3 rfl) ?_
    refine z_cVi (As := [.int x3]) (rest := []) ⟨hx, hb, hml, hown, hts⟩ hK hw hA (kX10_isWord l D g ad σ x3 _ rfl) (zcwV 1 hts zgoodIn zw_412 zw_414 zw_8 zw_52 zw_415 rfl rfl hX10_isWord ⟨Nat.le_of_ble_eq_true rfl, Nat.le_of_ble_eq_true rfl⟩) zO0_0 rfl hl.1 rfl (Nat.le_of_ble_eq_true rfl) dX10_carries_13 ⟨Nat.zero_le _, Nat.zero_le _⟩ (fun H locs hw => ?_)
    refine lv_if_eq (tgt := 28) hx hb dX10_carries_16 (by decide) (fun t2 => ?_) (fun t2 => ?_)
    · rw [if_pos t2] at h
      refine lv_iconst (v := (-1)) hx hb dX10_carries_28 (by decide) ?_
      obtain rfl := Option.some.inj h
      exact hret _ _ _ _ hw rfl dX10_carries_29
    · rw [if_neg t2] at h
      refine lv_aload_n hx hb dX10_carries_19 rfl (lv_at hl 0 rfl) ?_
      refine lv_iload hx hb dX10_carries_20 (lv_at hl 4 rfl) ?_
      refine z_cVi (As := [.int x4]) (rest := []) ⟨hx, hb, hml, hown, hts⟩ hK hw hA (kX10_isWordOrNothing l D g ad σ x4 _ rfl) (zcwV 1 hts zgoodIn zw_416 zw_418 zw_9 zw_52 zw_419 rfl rfl hX10_isWordOrNothing ⟨Nat.le_of_ble_eq_true rfl, Nat.le_of_ble_eq_true rfl⟩) zO0_0 rfl hl.1 rfl (Nat.le_of_ble_eq_true rfl) dX10_carries_22 ⟨Nat.zero_le _, Nat.zero_le _⟩ (fun H locs hw => ?_)
      refine lv_if_ne (tgt := 30) hx hb dX10_carries_25 (by decide) (fun t3 => ?_) (fun t3 => ?_)
      · rw [if_neg t3] at h
        refine lv_iload_n hx hb dX10_carries_30 rfl (lv_at hl 2 rfl) ?_
        refine z_cSi (As := [.int x2]) (rest := []) ⟨hx, hb, hml, hown, hts⟩ hK hw hA (kX10_isWay l D g ad σ x2 _ rfl) (zcwS 1 hts zgoodIn zw_420 zw_421 zw_52 zw_422 rfl rfl hX10_isWay ⟨Nat.le_of_ble_eq_true rfl, Nat.le_of_ble_eq_true rfl⟩) rfl hl.1 rfl (Nat.le_of_ble_eq_true rfl) dX10_carries_31 ⟨Nat.zero_le _, Nat.zero_le _⟩ (fun H locs hw => ?_)
        refine lv_if_ne (tgt := 40) hx hb dX10_carries_34 (by decide) (fun t4 => ?_) (fun t4 => ?_)
        · rw [if_neg t4] at h
          refine lv_aload_n hx hb dX10_carries_40 rfl (lv_at hl 0 rfl) ?_
          refine z_getc hx hb hts zin_X10 hown hK hw zF0_0_6 (hts _ zw_302) dX10_carries_41 ?_
          refine lv_iload_n hx hb dX10_carries_44 rfl (lv_at hl 3 rfl) ?_
          obtain ⟨r5, e6, h⟩ := zbind h
          refine z_cVv (As := [.int x3]) (rest := []) ⟨hx, hb, hml, hown, hts⟩ hK hw hA (kX1_begin l D g ad σ x3 r5 e6) (zcwV 1 hts zgoodIn zw_478 zw_479 zw_480 zw_60 zw_481 rfl rfl hX1_begin ⟨Nat.le_of_ble_eq_true rfl, Nat.le_of_ble_eq_true rfl⟩) zO0_7 rfl hl.1 rfl (Nat.le_of_ble_eq_true rfl) dX10_carries_45 ⟨Nat.zero_le _, Nat.zero_le _⟩ (fun H locs hw => ?_)
          refine lv_aload_n hx hb dX10_carries_48 rfl (lv_at hl 0 rfl) ?_
          refine z_getc hx hb hts zin_X10 hown hK hw zF0_0_6 (hts _ zw_302) dX10_carries_49 ?_
          refine lv_aload_n hx hb dX10_carries_52 rfl (lv_at hl 0 rfl) ?_
          refine z_getc hx hb hts zin_X10 hown hK hw zF0_0_2 (hts _ zw_298) dX10_carries_53 ?_
          refine lv_iload_n hx hb dX10_carries_56 rfl (lv_at hl 2 rfl) ?_
          refine lv_aload_n hx hb dX10_carries_57 rfl (lv_at hl 0 rfl) ?_
          refine z_getc hx hb hts zin_X10 hown hK hw zF0_0_3 (hts _ zw_299) dX10_carries_58 ?_
          refine z_getc hx hb hts zin_X2 hown hK hw zF0_4_0 (hts _ zw_157) dX10_carries_61 ?_
          refine lv_iload_n hx hb dX10_carries_64 rfl (lv_at hl 1 rfl) ?_
          obtain ⟨v7, e8, h⟩ := zbind h
          refine z_iald hx hb hK hw e8 dX10_carries_65 ?_
          refine lv_aload_n hx hb dX10_carries_66 rfl (lv_at hl 0 rfl) ?_
          refine z_getc hx hb hts zin_X10 hown hK hw zF0_0_3 (hts _ zw_299) dX10_carries_67 ?_
          refine z_getc hx hb hts zin_X2 hown hK hw zF0_4_1 (hts _ zw_159) dX10_carries_70 ?_
          refine lv_iload_n hx hb dX10_carries_73 rfl (lv_at hl 1 rfl) ?_
          obtain ⟨v9, e10, h⟩ := zbind h
          refine z_iald hx hb hK hw e10 dX10_carries_74 ?_
          obtain ⟨r11, e12, h⟩ := zbind h
          refine z_cVv (As := [.ref (ad 3), .int x2, .int v7, .int v9]) (rest := []) ⟨hx, hb, hml, hown, hts⟩ hK hw hA (kX1_hand l D g ad r5 x2 v7 v9 r11 e12) (zcwV 4 hts zgoodIn zw_485 zw_486 zw_487 zw_60 zw_488 rfl rfl hX1_hand ⟨Nat.le_of_ble_eq_true rfl, Nat.le_of_ble_eq_true rfl⟩) zO0_7 rfl hl.1 rfl (Nat.le_of_ble_eq_true rfl) dX10_carries_75 ⟨Nat.zero_le _, Nat.zero_le _⟩ (fun H locs hw => ?_)
          refine lv_aload_n hx hb dX10_carries_78 rfl (lv_at hl 0 rfl) ?_
          refine z_getc hx hb hts zin_X10 hown hK hw zF0_0_6 (hts _ zw_302) dX10_carries_79 ?_
          refine lv_iload hx hb dX10_carries_82 (lv_at hl 4 rfl) ?_
          refine lv_aload_n hx hb dX10_carries_84 rfl (lv_at hl 0 rfl) ?_
          refine z_getc hx hb hts zin_X10 hown hK hw zF0_0_2 (hts _ zw_298) dX10_carries_85 ?_
          refine z_geti hx hb hts zin_X8 hown hK hw zF0_3_0 (hts _ zw_139) dX10_carries_88 ?_
          obtain ⟨r13, e14, h⟩ := zbind h
          refine z_cVl (As := [.int x4, .int (zI r11 3 0)]) (rest := []) ⟨hx, hb, hml, hown, hts⟩ hK hw hA (kX1_timesAs l D g ad r11 x4 (zI r11 3 0) r13 e14) (zcwV 2 hts zgoodIn zw_494 zw_495 zw_496 zw_60 zw_497 rfl rfl hX1_timesAs ⟨Nat.le_of_ble_eq_true rfl, Nat.le_of_ble_eq_true rfl⟩) zO0_7 rfl hl.1 rfl (Nat.le_of_ble_eq_true rfl) dX10_carries_91 ⟨Nat.zero_le _, Nat.zero_le _⟩ (fun H locs hw => ?_)
          refine lv_l2i hx hb dX10_carries_94 rfl ?_
          obtain rfl := Option.some.inj h
          exact hret _ _ _ _ hw rfl dX10_carries_95
        · rw [if_pos t4] at h
          refine lv_bipush (v := (-2)) hx hb dX10_carries_37 (by decide) ?_
          obtain rfl := Option.some.inj h
          exact hret _ _ _ _ hw rfl dX10_carries_39
      · rw [if_pos t3] at h
        refine lv_iconst (v := (-1)) hx hb dX10_carries_28 (by decide) ?_
        obtain rfl := Option.some.inj h
        exact hret _ _ _ _ hw rfl dX10_carries_29
theorem hX10_otherWay : yX10_otherWay.cls ≠ "java/lang/invoke/MethodHandle" ∧ yX10_otherWay.cls ≠ "java/lang/invoke/VarHandle" ∧ (parseMethodDescriptor yX10_otherWay.desc).map (fun d => d.parameters.length) = some 1 := by decide +kernel
set_option maxHeartbeats 4000000 in
set_option maxRecDepth 100000 in
theorem kX10_otherWay (l : Launch) (D : va_G) (g : zG) (ad : Nat → Nat) (σ : zSt) (x0 : Int32) (o : Int32) (h : fX10_otherWay x0 = o) : zMi l D g 0 ad yX10_otherWay (Cond.code yX10_otherWay cX10_otherWay 1 (some .int) :: zws) (zRm 0) [.int x0] σ o σ := by
  refine z_enter_i (by decide) (Nat.le_of_ble_eq_true rfl) ?_
  intro p e s m below meth c A ls Q C hw hl hret
  obtain ⟨hx, hb, hml, hown, hts, hK, hA⟩ := id C
  have hown : s.vm.findClass RX10 = some m.cls := hown
  have C : zCx p c cX10_otherWay s _ RX10 m 1 A s.heap D g := C
  have hl : lv_has ls 1 [(0, .int x0)] := hl
  unfold fX10_otherWay at h
  refine lv_iload_n hx hb dX10_otherWay_0 rfl (lv_at hl 0 rfl) ?_
  refine lv_if_ne (tgt := 8) hx hb dX10_otherWay_1 (by decide) (fun t1 => ?_) (fun t1 => ?_)
  · rw [if_neg t1] at h
    refine lv_iconst (v := 0) hx hb dX10_otherWay_8 (by decide) ?_
    subst h
    exact hret _ _ _ _ hw rfl dX10_otherWay_9
  · rw [if_pos t1] at h
    refine lv_iconst (v := 1) hx hb dX10_otherWay_4 (by decide) ?_
    refine lv_goto (tgt := 9) hx hb dX10_otherWay_5 (by decide) ?_
    subst h
    exact hret _ _ _ _ hw rfl dX10_otherWay_9
theorem hX10_returns : yX10_returns.cls = RX10 ∧ yX10_returns.cls ≠ "java/lang/invoke/MethodHandle" ∧ yX10_returns.cls ≠ "java/lang/invoke/VarHandle" ∧ (parseMethodDescriptor yX10_returns.desc).map (fun d => d.parameters.length) = some 3 := by decide +kernel
set_option maxHeartbeats 4000000 in
set_option maxRecDepth 100000 in
theorem kX10_returns (l : Launch) (D : va_G) (g : zG) (ad : Nat → Nat) (σ : zSt) (x1 : Int32) (x2 : Int32) (x3 : Int32) (o : Int32 × zSt) (h : fX10_returns σ x1 x2 x3 = some o) : zMi l D g 0 ad yX10_returns (Cond.code yX10_returns cX10_returns 4 (some .int) :: zws) (zRm 3) [.ref (ad 0), .int x1, .int x2, .int x3] σ o.1 o.2 := by
  refine z_enter_i (by decide) (Nat.le_of_ble_eq_true rfl) ?_
  intro p e s m below meth c A ls Q C hw hl hret
  obtain ⟨hx, hb, hml, hown, hts, hK, hA⟩ := id C
  have hown : s.vm.findClass RX10 = some m.cls := hown
  have C : zCx p c cX10_returns s _ RX10 m 4 A s.heap D g := C
  have hl : lv_has ls 4 [(0, .ref (ad 0)), (1, .int x1), (2, .int x2), (3, .int x3)] := hl
  unfold fX10_returns at h
  refine lv_aload_n hx hb dX10_returns_0 rfl (lv_at hl 0 rfl) ?_
  refine z_getc hx hb hts zin_X10 hown hK hw zF0_0_3 (hts _ zw_299) dX10_returns_1 ?_
  refine lv_iload_n hx hb dX10_returns_4 rfl (lv_at hl 1 rfl) ?_
  refine z_cVi (As := [.int x1]) (rest := []) ⟨hx, hb, hml, hown, hts⟩ hK hw hA (kX2_has l D g ad σ x1 _ rfl) (zcwV 1 hts zgoodIn zw_466 zw_467 zw_468 zw_57 zw_469 rfl rfl hX2_has ⟨Nat.le_of_ble_eq_true rfl, Nat.le_of_ble_eq_true rfl⟩) zO0_4 rfl hl.1 rfl (Nat.le_of_ble_eq_true rfl) dX10_returns_5 ⟨Nat.zero_le _, Nat.zero_le _⟩ (fun H locs hw => ?_)
  refine lv_if_eq (tgt := 19) hx hb dX10_returns_8 (by decide) (fun t1 => ?_) (fun t1 => ?_)
  · rw [if_pos t1] at h
    refine lv_iconst (v := (-1)) hx hb dX10_returns_19 (by decide) ?_
    obtain rfl := Option.some.inj h
    exact hret _ _ _ _ hw rfl dX10_returns_20
  · rw [if_neg t1] at h
    refine lv_aload_n hx hb dX10_returns_11 rfl (lv_at hl 0 rfl) ?_
    refine lv_iload_n hx hb dX10_returns_12 rfl (lv_at hl 3 rfl) ?_
    refine z_cVi (As := [.int x3]) (rest := []) ⟨hx, hb, hml, hown, hts⟩ hK hw hA (kX10_isWord l D g ad σ x3 _ rfl) (zcwV 1 hts zgoodIn zw_412 zw_414 zw_8 zw_52 zw_415 rfl rfl hX10_isWord ⟨Nat.le_of_ble_eq_true rfl, Nat.le_of_ble_eq_true rfl⟩) zO0_0 rfl hl.1 rfl (Nat.le_of_ble_eq_true rfl) dX10_returns_13 ⟨Nat.zero_le _, Nat.zero_le _⟩ (fun H locs hw => ?_)
    refine lv_if_ne (tgt := 21) hx hb dX10_returns_16 (by decide) (fun t2 => ?_) (fun t2 => ?_)
    · rw [if_neg t2] at h
      refine lv_iload_n hx hb dX10_returns_21 rfl (lv_at hl 2 rfl) ?_
      refine z_cSi (As := [.int x2]) (rest := []) ⟨hx, hb, hml, hown, hts⟩ hK hw hA (kX10_isWay l D g ad σ x2 _ rfl) (zcwS 1 hts zgoodIn zw_420 zw_421 zw_52 zw_422 rfl rfl hX10_isWay ⟨Nat.le_of_ble_eq_true rfl, Nat.le_of_ble_eq_true rfl⟩) rfl hl.1 rfl (Nat.le_of_ble_eq_true rfl) dX10_returns_22 ⟨Nat.zero_le _, Nat.zero_le _⟩ (fun H locs hw => ?_)
      refine lv_if_ne (tgt := 31) hx hb dX10_returns_25 (by decide) (fun t3 => ?_) (fun t3 => ?_)
      · rw [if_neg t3] at h
        refine lv_aload_n hx hb dX10_returns_31 rfl (lv_at hl 0 rfl) ?_
        refine z_getc hx hb hts zin_X10 hown hK hw zF0_0_6 (hts _ zw_302) dX10_returns_32 ?_
        refine lv_iload_n hx hb dX10_returns_35 rfl (lv_at hl 3 rfl) ?_
        obtain ⟨r4, e5, h⟩ := zbind h
        refine z_cVv (As := [.int x3]) (rest := []) ⟨hx, hb, hml, hown, hts⟩ hK hw hA (kX1_begin l D g ad σ x3 r4 e5) (zcwV 1 hts zgoodIn zw_478 zw_479 zw_480 zw_60 zw_481 rfl rfl hX1_begin ⟨Nat.le_of_ble_eq_true rfl, Nat.le_of_ble_eq_true rfl⟩) zO0_7 rfl hl.1 rfl (Nat.le_of_ble_eq_true rfl) dX10_returns_36 ⟨Nat.zero_le _, Nat.zero_le _⟩ (fun H locs hw => ?_)
        refine lv_aload_n hx hb dX10_returns_39 rfl (lv_at hl 0 rfl) ?_
        refine z_getc hx hb hts zin_X10 hown hK hw zF0_0_6 (hts _ zw_302) dX10_returns_40 ?_
        refine lv_aload_n hx hb dX10_returns_43 rfl (lv_at hl 0 rfl) ?_
        refine z_getc hx hb hts zin_X10 hown hK hw zF0_0_2 (hts _ zw_298) dX10_returns_44 ?_
        refine lv_iload_n hx hb dX10_returns_47 rfl (lv_at hl 2 rfl) ?_
        refine lv_aload_n hx hb dX10_returns_48 rfl (lv_at hl 0 rfl) ?_
        refine z_getc hx hb hts zin_X10 hown hK hw zF0_0_3 (hts _ zw_299) dX10_returns_49 ?_
        refine z_getc hx hb hts zin_X2 hown hK hw zF0_4_0 (hts _ zw_157) dX10_returns_52 ?_
        refine lv_iload_n hx hb dX10_returns_55 rfl (lv_at hl 1 rfl) ?_
        obtain ⟨v6, e7, h⟩ := zbind h
        refine z_iald hx hb hK hw e7 dX10_returns_56 ?_
        refine lv_aload_n hx hb dX10_returns_57 rfl (lv_at hl 0 rfl) ?_
        refine z_getc hx hb hts zin_X10 hown hK hw zF0_0_3 (hts _ zw_299) dX10_returns_58 ?_
        refine z_getc hx hb hts zin_X2 hown hK hw zF0_4_1 (hts _ zw_159) dX10_returns_61 ?_
        refine lv_iload_n hx hb dX10_returns_64 rfl (lv_at hl 1 rfl) ?_
        obtain ⟨v8, e9, h⟩ := zbind h
        refine z_iald hx hb hK hw e9 dX10_returns_65 ?_
        obtain ⟨r10, e11, h⟩ := zbind h
        refine z_cVv (As := [.ref (ad 3), .int x2, .int v6, .int v8]) (rest := []) ⟨hx, hb, hml, hown, hts⟩ hK hw hA (kX1_hand l D g ad r4 x2 v6 v8 r10 e11) (zcwV 4 hts zgoodIn zw_485 zw_486 zw_487 zw_60 zw_488 rfl rfl hX1_hand ⟨Nat.le_of_ble_eq_true rfl, Nat.le_of_ble_eq_true rfl⟩) zO0_7 rfl hl.1 rfl (Nat.le_of_ble_eq_true rfl) dX10_returns_66 ⟨Nat.zero_le _, Nat.zero_le _⟩ (fun H locs hw => ?_)
        refine lv_aload_n hx hb dX10_returns_69 rfl (lv_at hl 0 rfl) ?_
        refine z_getc hx hb hts zin_X10 hown hK hw zF0_0_6 (hts _ zw_302) dX10_returns_70 ?_
        refine lv_aload_n hx hb dX10_returns_73 rfl (lv_at hl 0 rfl) ?_
        refine z_getc hx hb hts zin_X10 hown hK hw zF0_0_2 (hts _ zw_298) dX10_returns_74 ?_
        refine lv_iload_n hx hb dX10_returns_77 rfl (lv_at hl 2 rfl) ?_
        refine z_cSi (As := [.int x2]) (rest := [.ref (ad 3), .ref (ad 7)]) ⟨hx, hb, hml, hown, hts⟩ hK hw hA (kX10_otherWay l D g ad r10 x2 _ rfl) (zcwS 1 hts zgoodIn zw_502 zw_503 zw_52 zw_504 rfl rfl hX10_otherWay ⟨Nat.le_of_ble_eq_true rfl, Nat.le_of_ble_eq_true rfl⟩) rfl hl.1 rfl (Nat.le_of_ble_eq_true rfl) dX10_returns_78 ⟨Nat.zero_le _, Nat.zero_le _⟩ (fun H locs hw => ?_)
        refine lv_aload_n hx hb dX10_returns_81 rfl (lv_at hl 0 rfl) ?_
        refine z_getc hx hb hts zin_X10 hown hK hw zF0_0_3 (hts _ zw_299) dX10_returns_82 ?_
        refine z_getc hx hb hts zin_X2 hown hK hw zF0_4_0 (hts _ zw_157) dX10_returns_85 ?_
        refine lv_iload_n hx hb dX10_returns_88 rfl (lv_at hl 1 rfl) ?_
        obtain ⟨v12, e13, h⟩ := zbind h
        refine z_iald hx hb hK hw e13 dX10_returns_89 ?_
        refine lv_aload_n hx hb dX10_returns_90 rfl (lv_at hl 0 rfl) ?_
        refine z_getc hx hb hts zin_X10 hown hK hw zF0_0_3 (hts _ zw_299) dX10_returns_91 ?_
        refine z_getc hx hb hts zin_X2 hown hK hw zF0_4_1 (hts _ zw_159) dX10_returns_94 ?_
        refine lv_iload_n hx hb dX10_returns_97 rfl (lv_at hl 1 rfl) ?_
        obtain ⟨v14, e15, h⟩ := zbind h
        refine z_iald hx hb hK hw e15 dX10_returns_98 ?_
        obtain ⟨r16, e17, h⟩ := zbind h
        refine z_cVv (As := [.ref (ad 3), .int (fX10_otherWay x2), .int v12, .int v14]) (rest := []) ⟨hx, hb, hml, hown, hts⟩ hK hw hA (kX1_hand l D g ad r10 (fX10_otherWay x2) v12 v14 r16 e17) (zcwV 4 hts zgoodIn zw_485 zw_486 zw_487 zw_60 zw_488 rfl rfl hX1_hand ⟨Nat.le_of_ble_eq_true rfl, Nat.le_of_ble_eq_true rfl⟩) zO0_7 rfl hl.1 rfl (Nat.le_of_ble_eq_true rfl) dX10_returns_99 ⟨Nat.zero_le _, Nat.zero_le _⟩ (fun H locs hw => ?_)
        refine lv_aload_n hx hb dX10_returns_102 rfl (lv_at hl 0 rfl) ?_
        refine z_getc hx hb hts zin_X10 hown hK hw zF0_0_6 (hts _ zw_302) dX10_returns_103 ?_
        refine lv_aload_n hx hb dX10_returns_106 rfl (lv_at hl 0 rfl) ?_
        refine z_getc hx hb hts zin_X10 hown hK hw zF0_0_2 (hts _ zw_298) dX10_returns_107 ?_
        refine z_geti hx hb hts zin_X8 hown hK hw zF0_3_0 (hts _ zw_139) dX10_returns_110 ?_
        obtain ⟨r18, e19, h⟩ := zbind h
        refine z_cVi (As := [.int (zI r16 3 0)]) (rest := []) ⟨hx, hb, hml, hown, hts⟩ hK hw hA (kX1_likeliest l D g ad r16 (zI r16 3 0) r18 e19) (zcwV 1 hts zgoodIn zw_505 zw_506 zw_507 zw_60 zw_508 rfl rfl hX1_likeliest ⟨Nat.le_of_ble_eq_true rfl, Nat.le_of_ble_eq_true rfl⟩) zO0_7 rfl hl.1 rfl (Nat.le_of_ble_eq_true rfl) dX10_returns_113 ⟨Nat.zero_le _, Nat.zero_le _⟩ (fun H locs hw => ?_)
        obtain rfl := Option.some.inj h
        exact hret _ _ _ _ hw rfl dX10_returns_116
      · rw [if_pos t3] at h
        refine lv_bipush (v := (-2)) hx hb dX10_returns_28 (by decide) ?_
        obtain rfl := Option.some.inj h
        exact hret _ _ _ _ hw rfl dX10_returns_30
    · rw [if_pos t2] at h
      refine lv_iconst (v := (-1)) hx hb dX10_returns_19 (by decide) ?_
      obtain rfl := Option.some.inj h
      exact hret _ _ _ _ hw rfl dX10_returns_20
theorem hX10_isWhich : yX10_isWhich.cls ≠ "java/lang/invoke/MethodHandle" ∧ yX10_isWhich.cls ≠ "java/lang/invoke/VarHandle" ∧ (parseMethodDescriptor yX10_isWhich.desc).map (fun d => d.parameters.length) = some 1 := by decide +kernel
set_option maxHeartbeats 4000000 in
set_option maxRecDepth 100000 in
theorem kX10_isWhich (l : Launch) (D : va_G) (g : zG) (ad : Nat → Nat) (σ : zSt) (x0 : Int32) (o : Int32) (h : fX10_isWhich x0 = o) : zMi l D g 0 ad yX10_isWhich (Cond.code yX10_isWhich cX10_isWhich 1 (some .boolean) :: zws) (zRm 0) [.int x0] σ o σ := by
  refine z_enter_i (by decide) (Nat.le_of_ble_eq_true rfl) ?_
  intro p e s m below meth c A ls Q C hw hl hret
  obtain ⟨hx, hb, hml, hown, hts, hK, hA⟩ := id C
  have hown : s.vm.findClass RX10 = some m.cls := hown
  have C : zCx p c cX10_isWhich s _ RX10 m 1 A s.heap D g := C
  have hl : lv_has ls 1 [(0, .int x0)] := hl
  unfold fX10_isWhich at h
  refine lv_iload_n hx hb dX10_isWhich_0 rfl (lv_at hl 0 rfl) ?_
  refine lv_if_eq (tgt := 9) hx hb dX10_isWhich_1 (by decide) (fun t1 => ?_) (fun t1 => ?_)
  · rw [if_pos t1] at h
    refine lv_iconst (v := 1) hx hb dX10_isWhich_9 (by decide) ?_
    refine lv_goto (tgt := 14) hx hb dX10_isWhich_10 (by decide) ?_
    subst h
    exact hret _ _ _ _ hw zb1 dX10_isWhich_14
  · rw [if_neg t1] at h
    refine lv_iload_n hx hb dX10_isWhich_4 rfl (lv_at hl 0 rfl) ?_
    refine lv_iconst (v := 1) hx hb dX10_isWhich_5 (by decide) ?_
    refine lv_icmp_ne (tgt := 13) hx hb dX10_isWhich_6 (by decide) (fun t2 => ?_) (fun t2 => ?_)
    · rw [if_neg t2] at h
      refine lv_iconst (v := 0) hx hb dX10_isWhich_13 (by decide) ?_
      subst h
      exact hret _ _ _ _ hw zb0 dX10_isWhich_14
    · rw [if_pos t2] at h
      refine lv_iconst (v := 1) hx hb dX10_isWhich_9 (by decide) ?_
      refine lv_goto (tgt := 14) hx hb dX10_isWhich_10 (by decide) ?_
      subst h
      exact hret _ _ _ _ hw zb1 dX10_isWhich_14
set_option maxHeartbeats 4000000 in
set_option maxRecDepth 100000 in
theorem wX10_greatestCommon_9 {p : Program} {l : Launch} {e : Env} {s : State} {m : MethodId} {args : Array Value} {below : List Frame} {meth : Method} {c : Code} {A : Nat → Prop} {H0 : Heap} {Q : State → Prop} {D : va_G} {g : zG} {ad : Nat → Nat} (C : zCx p c cX10_greatestCommon s args RX10 m 11 A H0 D g) (σ : zSt) (n : Nat) (a : (Int64 × Int64 × Int32)) (b : (Int64 × Int64 × Int32)) (h : zLp (fun a => bX10_greatestCommon_9 a.1 a.2.1 a.2.2) n a = some b) (hk : ∀ (H : Heap) (locs : List Loc) (ls : Array Slot), zH D g 0 ad A H0 σ H locs → lv_has ls 11 [(4, .long b.1), (6, .long b.2.1), (8, .int b.2.2)] → W p l e (zRm 0) s m args below meth c H locs 0 0 Q (F0 m 45 ls [])) : ∀ (H : Heap) (locs : List Loc) (ls : Array Slot), zH D g 0 ad A H0 σ H locs → lv_has ls 11 [(4, .long a.1), (6, .long a.2.1), (8, .int a.2.2)] → W p l e (zRm 0) s m args below meth c H locs 0 0 Q (F0 m 9 ls []) := by
  obtain ⟨hx, hb, hml, hown, hts, hK, hA⟩ := id C
  refine zLp_walk (P := fun (a : (Int64 × Int64 × Int32)) => ∀ (H : Heap) (locs : List Loc) (ls : Array Slot), zH D g 0 ad A H0 σ H locs → lv_has ls 11 [(4, .long a.1), (6, .long a.2.1), (8, .int a.2.2)] → W p l e (zRm 0) s m args below meth c H locs 0 0 Q (F0 m 9 ls [])) (E := fun (b' : (Int64 × Int64 × Int32)) => b' = b) ?_ n a b h rfl
  intro a r h hn he H locs ls hw hl
  obtain ⟨x4, x6, x8⟩ := a
  have h : bX10_greatestCommon_9 x4 x6 x8 = some r := h
  have hl : lv_has ls 11 [(4, .long x4), (6, .long x6), (8, .int x8)] := hl
  have hw : zH D g 0 ad A H0 σ H locs := hw
  unfold bX10_greatestCommon_9 at h
  refine lv_iload hx hb dX10_greatestCommon_9 (lv_at hl 2 rfl) ?_
  refine lv_sipush (v := 200) hx hb dX10_greatestCommon_11 (by decide) ?_
  refine lv_icmp_ge (tgt := 45) hx hb dX10_greatestCommon_14 (by decide) (fun t1 => ?_) (fun t1 => ?_)
  · rw [if_pos t1] at h
    obtain rfl := Option.some.inj h
    obtain rfl := he _ rfl
    exact hk _ _ _ hw (lv_sub hl [0, 1, 2] rfl)
  · rw [if_neg t1] at h
    refine lv_lload hx hb dX10_greatestCommon_17 (lv_at hl 1 rfl) ?_
    refine lv_lconst (v := 0) hx hb dX10_greatestCommon_19 (by decide) ?_
    refine z_lceq (tgt := 45) hx hb dX10_greatestCommon_20 dX10_greatestCommon_21 (by decide) (fun t2 => ?_) (fun t2 => ?_)
    · rw [if_pos t2] at h
      obtain rfl := Option.some.inj h
      obtain rfl := he _ rfl
      exact hk _ _ _ hw (lv_sub hl [0, 1, 2] rfl)
    · rw [if_neg t2] at h
      refine lv_lload hx hb dX10_greatestCommon_24 (lv_at hl 0 rfl) ?_
      refine lv_lload hx hb dX10_greatestCommon_26 (lv_at hl 1 rfl) ?_
      obtain ⟨v3, e4, h⟩ := zbind h
      refine z_lrem hx hb e4 dX10_greatestCommon_28 ?_
      refine lv_lstore (lv' := [(9, .long v3), (4, .long x4), (6, .long x6), (8, .int x8)]) hx hb dX10_greatestCommon_29 hl (by decide) rfl (fun ls hl => ?_)
      refine lv_lload hx hb dX10_greatestCommon_31 (lv_at hl 2 rfl) ?_
      refine lv_lstore (lv' := [(4, .long x6), (9, .long v3), (6, .long x6), (8, .int x8)]) hx hb dX10_greatestCommon_33 hl (by decide) rfl (fun ls hl => ?_)
      refine lv_lload hx hb dX10_greatestCommon_35 (lv_at hl 1 rfl) ?_
      refine lv_lstore (lv' := [(6, .long v3), (4, .long x6), (9, .long v3), (8, .int x8)]) hx hb dX10_greatestCommon_37 hl (by decide) rfl (fun ls hl => ?_)
      refine lv_iinc (v := x8 + 1) (lv' := [(8, .int (x8 + 1)), (6, .long v3), (4, .long x6), (9, .long v3)]) hx hb dX10_greatestCommon_39 hl (k := 3) rfl rfl (by decide) rfl (fun ls hl => ?_)
      refine lv_goto (tgt := 9) hx hb dX10_greatestCommon_42 (by decide) ?_
      obtain rfl := Option.some.inj h
      exact hn _ rfl _ _ _ hw (lv_sub hl [2, 1, 0] rfl)
theorem hX10_greatestCommon : yX10_greatestCommon.cls ≠ "java/lang/invoke/MethodHandle" ∧ yX10_greatestCommon.cls ≠ "java/lang/invoke/VarHandle" ∧ (parseMethodDescriptor yX10_greatestCommon.desc).map (fun d => d.parameters.length) = some 2 := by decide +kernel
set_option maxHeartbeats 4000000 in
set_option maxRecDepth 100000 in
theorem kX10_greatestCommon (l : Launch) (D : va_G) (g : zG) (ad : Nat → Nat) (σ : zSt) (x0 : Int64) (x2 : Int64) (o : Int64) (h : fX10_greatestCommon x0 x2 = some o) : zMl l D g 0 ad yX10_greatestCommon (Cond.code yX10_greatestCommon cX10_greatestCommon 11 (some .long) :: zws) (zRm 0) [.long x0, .long x2] σ o σ := by
  refine z_enter_l (by decide) (Nat.le_of_ble_eq_true rfl) ?_
  intro p e s m below meth c A ls Q C hw hl hret
  obtain ⟨hx, hb, hml, hown, hts, hK, hA⟩ := id C
  have hown : s.vm.findClass RX10 = some m.cls := hown
  have C : zCx p c cX10_greatestCommon s _ RX10 m 11 A s.heap D g := C
  have hl : lv_has ls 11 [(0, .long x0), (2, .long x2)] := hl
  unfold fX10_greatestCommon at h
  refine lv_lload_n hx hb dX10_greatestCommon_0 rfl (lv_at hl 0 rfl) ?_
  refine lv_lstore (lv' := [(4, .long x0), (0, .long x0), (2, .long x2)]) hx hb dX10_greatestCommon_1 hl (by decide) rfl (fun ls hl => ?_)
  refine lv_lload_n hx hb dX10_greatestCommon_3 rfl (lv_at hl 2 rfl) ?_
  refine lv_lstore (lv' := [(6, .long x2), (4, .long x0), (0, .long x0), (2, .long x2)]) hx hb dX10_greatestCommon_4 hl (by decide) rfl (fun ls hl => ?_)
  refine lv_iconst (v := 0) hx hb dX10_greatestCommon_6 (by decide) ?_
  refine lv_istore (lv' := [(8, .int (0 : Int32)), (6, .long x2), (4, .long x0), (0, .long x0), (2, .long x2)]) hx hb dX10_greatestCommon_7 hl (by decide) rfl (fun ls hl => ?_)
  obtain ⟨b1, e2, h⟩ := zbind h
  refine wX10_greatestCommon_9 C σ zFU (x0, x2, (0 : Int32)) b1 e2 (fun H locs ls hw hl => ?_) _ _ _ hw (lv_sub hl [2, 1, 0] rfl)
  have hl : lv_has ls 11 [(4, .long b1.1), (6, .long b1.2.1), (8, .int b1.2.2)] := hl
  refine lv_lload hx hb dX10_greatestCommon_45 (lv_at hl 0 rfl) ?_
  obtain rfl := Option.some.inj h
  exact hret _ _ _ _ hw dX10_greatestCommon_47
theorem hX10_inLeastTerms : yX10_inLeastTerms.cls ≠ "java/lang/invoke/MethodHandle" ∧ yX10_inLeastTerms.cls ≠ "java/lang/invoke/VarHandle" ∧ (parseMethodDescriptor yX10_inLeastTerms.desc).map (fun d => d.parameters.length) = some 3 := by decide +kernel
set_option maxHeartbeats 4000000 in
set_option maxRecDepth 100000 in
theorem kX10_inLeastTerms (l : Launch) (D : va_G) (g : zG) (ad : Nat → Nat) (σ : zSt) (x0 : Int64) (x2 : Int64) (x4 : Int32) (o : Int64) (h : fX10_inLeastTerms x0 x2 x4 = some o) : zMl l D g 0 ad yX10_inLeastTerms (Cond.code yX10_inLeastTerms cX10_inLeastTerms 7 (some .long) :: zws) (zRm 1) [.long x0, .long x2, .int x4] σ o σ := by
  refine z_enter_l (by decide) (Nat.le_of_ble_eq_true rfl) ?_
  intro p e s m below meth c A ls Q C hw hl hret
  obtain ⟨hx, hb, hml, hown, hts, hK, hA⟩ := id C
  have hown : s.vm.findClass RX10 = some m.cls := hown
  have C : zCx p c cX10_inLeastTerms s _ RX10 m 7 A s.heap D g := C
  have hl : lv_has ls 7 [(0, .long x0), (2, .long x2), (4, .int x4)] := hl
  unfold fX10_inLeastTerms at h
  refine lv_lload_n hx hb dX10_inLeastTerms_0 rfl (lv_at hl 0 rfl) ?_
  refine lv_lload_n hx hb dX10_inLeastTerms_1 rfl (lv_at hl 1 rfl) ?_
  obtain ⟨r1, e2, h⟩ := zbind h
  refine z_cSl (As := [.long x0, .long x2]) (rest := []) ⟨hx, hb, hml, hown, hts⟩ hK hw hA (kX10_greatestCommon l D g ad σ x0 x2 r1 e2) (zcwS 2 hts zgoodIn zw_525 zw_526 zw_52 zw_527 rfl rfl hX10_greatestCommon ⟨Nat.le_of_ble_eq_true rfl, Nat.le_of_ble_eq_true rfl⟩) rfl hl.1 rfl (Nat.le_of_ble_eq_true rfl) dX10_inLeastTerms_2 ⟨Nat.zero_le _, Nat.zero_le _⟩ (fun H locs hw => ?_)
  refine lv_lstore (lv' := [(5, .long r1), (0, .long x0), (2, .long x2), (4, .int x4)]) hx hb dX10_inLeastTerms_5 hl (by decide) rfl (fun ls hl => ?_)
  refine lv_lload hx hb dX10_inLeastTerms_7 (lv_at hl 0 rfl) ?_
  refine lv_lconst (v := 0) hx hb dX10_inLeastTerms_9 (by decide) ?_
  refine z_lcne (tgt := 18) hx hb dX10_inLeastTerms_10 dX10_inLeastTerms_11 (by decide) (fun t3 => ?_) (fun t3 => ?_)
  · rw [if_neg t3] at h
    refine lv_iload hx hb dX10_inLeastTerms_18 (lv_at hl 3 rfl) ?_
    refine lv_if_ne (tgt := 27) hx hb dX10_inLeastTerms_20 (by decide) (fun t4 => ?_) (fun t4 => ?_)
    · rw [if_neg t4] at h
      refine lv_lload_n hx hb dX10_inLeastTerms_27 rfl (lv_at hl 2 rfl) ?_
      refine lv_lload hx hb dX10_inLeastTerms_28 (lv_at hl 0 rfl) ?_
      obtain ⟨v5, e6, h⟩ := zbind h
      refine z_ldiv hx hb e6 dX10_inLeastTerms_30 ?_
      obtain rfl := Option.some.inj h
      exact hret _ _ _ _ hw dX10_inLeastTerms_31
    · rw [if_pos t4] at h
      refine lv_lload_n hx hb dX10_inLeastTerms_23 rfl (lv_at hl 1 rfl) ?_
      refine lv_goto (tgt := 28) hx hb dX10_inLeastTerms_24 (by decide) ?_
      refine lv_lload hx hb dX10_inLeastTerms_28 (lv_at hl 0 rfl) ?_
      obtain ⟨v7, e8, h⟩ := zbind h
      refine z_ldiv hx hb e8 dX10_inLeastTerms_30 ?_
      obtain rfl := Option.some.inj h
      exact hret _ _ _ _ hw dX10_inLeastTerms_31
  · rw [if_pos t3] at h
    refine lv_ldc2 hx hb hown (hts _ zw_513) dX10_inLeastTerms_14 ?_
    obtain rfl := Option.some.inj h
    exact hret _ _ _ _ hw dX10_inLeastTerms_17
set_option maxHeartbeats 4000000 in
set_option maxRecDepth 100000 in
theorem wX10_hands_142 {p : Program} {l : Launch} {e : Env} {s : State} {m : MethodId} {args : Array Value} {below : List Frame} {meth : Method} {c : Code} {A : Nat → Prop} {H0 : Heap} {Q : State → Prop} {D : va_G} {g : zG} {ad : Nat → Nat} (C : zCx p c cX10_hands s args RX10 m 12 A H0 D g) (x3 : Int32) (x4 : Int32) (x6 : Int32) (x7 : Int32) (x8 : Int32) (n : Nat) (a : (Int32 × Int32 × zSt)) (b : (Int32 × Int32 × zSt)) (h : zLp (fun a => bX10_hands_142 x3 x4 x6 x7 x8 a.1 a.2.1 a.2.2) n a = some b) (hk : ∀ (H : Heap) (locs : List Loc) (ls : Array Slot), zH D g 0 ad A H0 b.2.2 H locs → lv_has ls 12 [(0, .ref (ad 0)), (3, .int x3), (4, .int x4), (6, .int x6), (7, .int x7), (8, .int x8), (9, .int b.1), (10, .int b.2.1)] → W p l e (zRm 3) s m args below meth c H locs 0 0 Q (F0 m 213 ls [])) : ∀ (H : Heap) (locs : List Loc) (ls : Array Slot), zH D g 0 ad A H0 a.2.2 H locs → lv_has ls 12 [(0, .ref (ad 0)), (3, .int x3), (4, .int x4), (6, .int x6), (7, .int x7), (8, .int x8), (9, .int a.1), (10, .int a.2.1)] → W p l e (zRm 3) s m args below meth c H locs 0 0 Q (F0 m 142 ls []) := by
  obtain ⟨hx, hb, hml, hown, hts, hK, hA⟩ := id C
  refine zLp_walk (P := fun (a : (Int32 × Int32 × zSt)) => ∀ (H : Heap) (locs : List Loc) (ls : Array Slot), zH D g 0 ad A H0 a.2.2 H locs → lv_has ls 12 [(0, .ref (ad 0)), (3, .int x3), (4, .int x4), (6, .int x6), (7, .int x7), (8, .int x8), (9, .int a.1), (10, .int a.2.1)] → W p l e (zRm 3) s m args below meth c H locs 0 0 Q (F0 m 142 ls [])) (E := fun (b' : (Int32 × Int32 × zSt)) => b' = b) ?_ n a b h rfl
  intro a r h hn he H locs ls hw hl
  obtain ⟨x9, x10, σ⟩ := a
  have h : bX10_hands_142 x3 x4 x6 x7 x8 x9 x10 σ = some r := h
  have hl : lv_has ls 12 [(0, .ref (ad 0)), (3, .int x3), (4, .int x4), (6, .int x6), (7, .int x7), (8, .int x8), (9, .int x9), (10, .int x10)] := hl
  have hw : zH D g 0 ad A H0 σ H locs := hw
  unfold bX10_hands_142 at h
  refine lv_iload hx hb dX10_hands_142 (lv_at hl 7 rfl) ?_
  refine lv_iload hx hb dX10_hands_144 (lv_at hl 3 rfl) ?_
  refine lv_iload hx hb dX10_hands_146 (lv_at hl 4 rfl) ?_
  refine lv_iadd hx hb dX10_hands_148 ?_
  refine lv_icmp_ge (tgt := 213) hx hb dX10_hands_149 (by decide) (fun t1 => ?_) (fun t1 => ?_)
  · rw [if_pos t1] at h
    obtain rfl := Option.some.inj h
    obtain rfl := he _ rfl
    exact hk _ _ _ hw (lv_sub hl [0, 1, 2, 3, 4, 5, 6, 7] rfl)
  · rw [if_neg t1] at h
    refine lv_aload_n hx hb dX10_hands_152 rfl (lv_at hl 0 rfl) ?_
    refine z_getc hx hb hts zin_X10 hown hK hw zF0_0_0 (hts _ zw_296) dX10_hands_153 ?_
    refine z_getc hx hb hts zin_X6 hown hK hw zF0_1_0 (hts _ zw_87) dX10_hands_156 ?_
    refine lv_iload hx hb dX10_hands_159 (lv_at hl 2 rfl) ?_
    obtain ⟨q2, e3, h⟩ := zbind h
    refine z_aald hx hb hK hw e3 dX10_hands_161 ?_
    refine lv_iload hx hb dX10_hands_162 (lv_at hl 7 rfl) ?_
    obtain ⟨v4, e5, h⟩ := zbind h
    refine z_iald hx hb hK hw e5 dX10_hands_164 ?_
    refine lv_istore (lv' := [(11, .int v4), (0, .ref (ad 0)), (3, .int x3), (4, .int x4), (6, .int x6), (7, .int x7), (8, .int x8), (9, .int x9), (10, .int x10)]) hx hb dX10_hands_165 hl (by decide) rfl (fun ls hl => ?_)
    refine lv_aload_n hx hb dX10_hands_167 rfl (lv_at hl 1 rfl) ?_
    refine z_getc hx hb hts zin_X10 hown hK hw zF0_0_6 (hts _ zw_302) dX10_hands_168 ?_
    refine lv_aload_n hx hb dX10_hands_171 rfl (lv_at hl 1 rfl) ?_
    refine z_getc hx hb hts zin_X10 hown hK hw zF0_0_2 (hts _ zw_298) dX10_hands_172 ?_
    refine lv_iload hx hb dX10_hands_175 (lv_at hl 7 rfl) ?_
    refine lv_aload_n hx hb dX10_hands_177 rfl (lv_at hl 1 rfl) ?_
    refine z_getc hx hb hts zin_X10 hown hK hw zF0_0_3 (hts _ zw_299) dX10_hands_178 ?_
    refine z_getc hx hb hts zin_X2 hown hK hw zF0_4_0 (hts _ zw_157) dX10_hands_181 ?_
    refine lv_iload hx hb dX10_hands_184 (lv_at hl 0 rfl) ?_
    obtain ⟨v6, e7, h⟩ := zbind h
    refine z_iald hx hb hK hw e7 dX10_hands_186 ?_
    refine lv_aload_n hx hb dX10_hands_187 rfl (lv_at hl 1 rfl) ?_
    refine z_getc hx hb hts zin_X10 hown hK hw zF0_0_3 (hts _ zw_299) dX10_hands_188 ?_
    refine z_getc hx hb hts zin_X2 hown hK hw zF0_4_1 (hts _ zw_159) dX10_hands_191 ?_
    refine lv_iload hx hb dX10_hands_194 (lv_at hl 0 rfl) ?_
    obtain ⟨v8, e9, h⟩ := zbind h
    refine z_iald hx hb hK hw e9 dX10_hands_196 ?_
    obtain ⟨r10, e11, h⟩ := zbind h
    refine z_cVv (As := [.ref (ad 3), .int x9, .int v6, .int v8]) (rest := []) ⟨hx, hb, hml, hown, hts⟩ hK hw hA (kX1_hand l D g ad σ x9 v6 v8 r10 e11) (zcwV 4 hts zgoodIn zw_485 zw_486 zw_487 zw_60 zw_488 rfl rfl hX1_hand ⟨Nat.le_of_ble_eq_true rfl, Nat.le_of_ble_eq_true rfl⟩) zO0_7 rfl hl.1 rfl (Nat.le_of_ble_eq_true rfl) dX10_hands_197 ⟨Nat.zero_le _, Nat.zero_le _⟩ (fun H locs hw => ?_)
    refine lv_iload hx hb dX10_hands_200 (lv_at hl 7 rfl) ?_
    refine z_cSi (As := [.int x9]) (rest := []) ⟨hx, hb, hml, hown, hts⟩ hK hw hA (kX10_otherWay l D g ad r10 x9 _ rfl) (zcwS 1 hts zgoodIn zw_502 zw_503 zw_52 zw_504 rfl rfl hX10_otherWay ⟨Nat.le_of_ble_eq_true rfl, Nat.le_of_ble_eq_true rfl⟩) rfl hl.1 rfl (Nat.le_of_ble_eq_true rfl) dX10_hands_202 ⟨Nat.zero_le _, Nat.zero_le _⟩ (fun H locs hw => ?_)
    refine lv_istore (lv' := [(9, .int (fX10_otherWay x9)), (11, .int v4), (0, .ref (ad 0)), (3, .int x3), (4, .int x4), (6, .int x6), (7, .int x7), (8, .int x8), (10, .int x10)]) hx hb dX10_hands_205 hl (by decide) rfl (fun ls hl => ?_)
    refine lv_iinc (v := x10 + 1) (lv' := [(10, .int (x10 + 1)), (9, .int (fX10_otherWay x9)), (11, .int v4), (0, .ref (ad 0)), (3, .int x3), (4, .int x4), (6, .int x6), (7, .int x7), (8, .int x8)]) hx hb dX10_hands_207 hl (k := 8) rfl rfl (by decide) rfl (fun ls hl => ?_)
    refine lv_goto (tgt := 142) hx hb dX10_hands_210 (by decide) ?_
    obtain rfl := Option.some.inj h
    exact hn _ rfl _ _ _ hw (lv_sub hl [3, 4, 5, 6, 7, 8, 1, 0] rfl)
theorem hX10_hands : yX10_hands.cls = RX10 ∧ yX10_hands.cls ≠ "java/lang/invoke/MethodHandle" ∧ yX10_hands.cls ≠ "java/lang/invoke/VarHandle" ∧ (parseMethodDescriptor yX10_hands.desc).map (fun d => d.parameters.length) = some 8 := by decide +kernel
set_option maxHeartbeats 4000000 in
set_option maxRecDepth 100000 in
theorem kX10_hands (l : Launch) (D : va_G) (g : zG) (ad : Nat → Nat) (σ : zSt) (x1 : Int32) (x2 : Int32) (x3 : Int32) (x4 : Int32) (x5 : Int32) (x6 : Int32) (x7 : Int32) (x8 : Int32) (o : Int64 × zSt) (h : fX10_hands σ x1 x2 x3 x4 x5 x6 x7 x8 = some o) : zMl l D g 0 ad yX10_hands (Cond.code yX10_hands cX10_hands 12 (some .long) :: zws) (zRm 3) [.ref (ad 0), .int x1, .int x2, .int x3, .int x4, .int x5, .int x6, .int x7, .int x8] σ o.1 o.2 := by
  refine z_enter_l (by decide) (Nat.le_of_ble_eq_true rfl) ?_
  intro p e s m below meth c A ls Q C hw hl hret
  obtain ⟨hx, hb, hml, hown, hts, hK, hA⟩ := id C
  have hown : s.vm.findClass RX10 = some m.cls := hown
  have C : zCx p c cX10_hands s _ RX10 m 12 A s.heap D g := C
  have hl : lv_has ls 12 [(0, .ref (ad 0)), (1, .int x1), (2, .int x2), (3, .int x3), (4, .int x4), (5, .int x5), (6, .int x6), (7, .int x7), (8, .int x8)] := hl
  unfold fX10_hands at h
  refine lv_aload_n hx hb dX10_hands_0 rfl (lv_at hl 0 rfl) ?_
  refine lv_iconst (v := 0) hx hb dX10_hands_1 (by decide) ?_
  refine z_puti hx hb hts zin_X10 tyX10_ok nmX10 hown hK hw zF0_0_10 (hts _ zw_306) zY0_0_10 dX10_hands_2 (fun H locs hw => ?_)
  refine lv_aload_n hx hb dX10_hands_5 rfl (lv_at hl 0 rfl) ?_
  refine lv_iload_n hx hb dX10_hands_6 rfl (lv_at hl 2 rfl) ?_
  refine z_cVi (As := [.int x2]) (rest := []) ⟨hx, hb, hml, hown, hts⟩ hK hw hA (kX10_isWord l D g ad (zwI σ 0 10 (0 : Int32)) x2 _ rfl) (zcwV 1 hts zgoodIn zw_412 zw_414 zw_8 zw_52 zw_415 rfl rfl hX10_isWord ⟨Nat.le_of_ble_eq_true rfl, Nat.le_of_ble_eq_true rfl⟩) zO0_0 rfl hl.1 rfl (Nat.le_of_ble_eq_true rfl) dX10_hands_7 ⟨Nat.zero_le _, Nat.zero_le _⟩ (fun H locs hw => ?_)
  refine lv_if_eq (tgt := 48) hx hb dX10_hands_10 (by decide) (fun t1 => ?_) (fun t1 => ?_)
  · rw [if_pos t1] at h
    refine lv_ldc2 hx hb hown (hts _ zw_513) dX10_hands_48 ?_
    obtain rfl := Option.some.inj h
    exact hret _ _ _ _ hw dX10_hands_51
  · rw [if_neg t1] at h
    refine lv_aload_n hx hb dX10_hands_13 rfl (lv_at hl 0 rfl) ?_
    refine lv_iload_n hx hb dX10_hands_14 rfl (lv_at hl 3 rfl) ?_
    refine z_cVi (As := [.int x3]) (rest := []) ⟨hx, hb, hml, hown, hts⟩ hK hw hA (kX10_isWordOrNothing l D g ad (zwI σ 0 10 (0 : Int32)) x3 _ rfl) (zcwV 1 hts zgoodIn zw_416 zw_418 zw_9 zw_52 zw_419 rfl rfl hX10_isWordOrNothing ⟨Nat.le_of_ble_eq_true rfl, Nat.le_of_ble_eq_true rfl⟩) zO0_0 rfl hl.1 rfl (Nat.le_of_ble_eq_true rfl) dX10_hands_15 ⟨Nat.zero_le _, Nat.zero_le _⟩ (fun H locs hw => ?_)
    refine lv_if_eq (tgt := 48) hx hb dX10_hands_18 (by decide) (fun t2 => ?_) (fun t2 => ?_)
    · rw [if_pos t2] at h
      refine lv_ldc2 hx hb hown (hts _ zw_513) dX10_hands_48 ?_
      obtain rfl := Option.some.inj h
      exact hret _ _ _ _ hw dX10_hands_51
    · rw [if_neg t2] at h
      refine lv_aload_n hx hb dX10_hands_21 rfl (lv_at hl 0 rfl) ?_
      refine z_getc hx hb hts zin_X10 hown hK hw zF0_0_0 (hts _ zw_296) dX10_hands_22 ?_
      refine lv_iload hx hb dX10_hands_25 (lv_at hl 4 rfl) ?_
      refine z_cVi (As := [.int x4]) (rest := []) ⟨hx, hb, hml, hown, hts⟩ hK hw hA (kX6_has l D g ad (zwI σ 0 10 (0 : Int32)) x4 _ rfl) (zcwV 1 hts zgoodIn zw_338 zw_339 zw_340 zw_53 zw_341 rfl rfl hX6_has ⟨Nat.le_of_ble_eq_true rfl, Nat.le_of_ble_eq_true rfl⟩) zO0_1 rfl hl.1 rfl (Nat.le_of_ble_eq_true rfl) dX10_hands_27 ⟨Nat.zero_le _, Nat.zero_le _⟩ (fun H locs hw => ?_)
      refine lv_if_eq (tgt := 48) hx hb dX10_hands_30 (by decide) (fun t3 => ?_) (fun t3 => ?_)
      · rw [if_pos t3] at h
        refine lv_ldc2 hx hb hown (hts _ zw_513) dX10_hands_48 ?_
        obtain rfl := Option.some.inj h
        exact hret _ _ _ _ hw dX10_hands_51
      · rw [if_neg t3] at h
        refine lv_iload_n hx hb dX10_hands_33 rfl (lv_at hl 1 rfl) ?_
        refine z_cSi (As := [.int x1]) (rest := []) ⟨hx, hb, hml, hown, hts⟩ hK hw hA (kX10_isWay l D g ad (zwI σ 0 10 (0 : Int32)) x1 _ rfl) (zcwS 1 hts zgoodIn zw_420 zw_421 zw_52 zw_422 rfl rfl hX10_isWay ⟨Nat.le_of_ble_eq_true rfl, Nat.le_of_ble_eq_true rfl⟩) rfl hl.1 rfl (Nat.le_of_ble_eq_true rfl) dX10_hands_34 ⟨Nat.zero_le _, Nat.zero_le _⟩ (fun H locs hw => ?_)
        refine lv_if_eq (tgt := 48) hx hb dX10_hands_37 (by decide) (fun t4 => ?_) (fun t4 => ?_)
        · rw [if_pos t4] at h
          refine lv_ldc2 hx hb hown (hts _ zw_513) dX10_hands_48 ?_
          obtain rfl := Option.some.inj h
          exact hret _ _ _ _ hw dX10_hands_51
        · rw [if_neg t4] at h
          refine lv_iload hx hb dX10_hands_40 (lv_at hl 5 rfl) ?_
          refine z_cSi (As := [.int x5]) (rest := []) ⟨hx, hb, hml, hown, hts⟩ hK hw hA (kX10_isSort l D g ad (zwI σ 0 10 (0 : Int32)) x5 _ rfl) (zcwS 1 hts zgoodIn zw_342 zw_343 zw_52 zw_344 rfl rfl hX10_isSort ⟨Nat.le_of_ble_eq_true rfl, Nat.le_of_ble_eq_true rfl⟩) rfl hl.1 rfl (Nat.le_of_ble_eq_true rfl) dX10_hands_42 ⟨Nat.zero_le _, Nat.zero_le _⟩ (fun H locs hw => ?_)
          refine lv_if_ne (tgt := 52) hx hb dX10_hands_45 (by decide) (fun t5 => ?_) (fun t5 => ?_)
          · rw [if_neg t5] at h
            refine lv_aload_n hx hb dX10_hands_52 rfl (lv_at hl 0 rfl) ?_
            refine lv_aload_n hx hb dX10_hands_53 rfl (lv_at hl 0 rfl) ?_
            refine z_getc hx hb hts zin_X10 hown hK hw zF0_0_0 (hts _ zw_296) dX10_hands_54 ?_
            refine lv_iload hx hb dX10_hands_57 (lv_at hl 4 rfl) ?_
            refine lv_iload hx hb dX10_hands_59 (lv_at hl 5 rfl) ?_
            refine lv_iload hx hb dX10_hands_61 (lv_at hl 6 rfl) ?_
            refine lv_iload hx hb dX10_hands_63 (lv_at hl 7 rfl) ?_
            obtain ⟨r6, e7, h⟩ := zbind h
            refine z_cVi (As := [.int x4, .int x5, .int x6, .int x7]) (rest := [.ref (ad 0)]) ⟨hx, hb, hml, hown, hts⟩ hK hw hA (kX6_faultOfCells l D g ad (zwI σ 0 10 (0 : Int32)) x4 x5 x6 x7 r6 e7) (zcwV 4 hts zgoodIn zw_345 zw_346 zw_347 zw_53 zw_348 rfl rfl hX6_faultOfCells ⟨Nat.le_of_ble_eq_true rfl, Nat.le_of_ble_eq_true rfl⟩) zO0_1 rfl hl.1 rfl (Nat.le_of_ble_eq_true rfl) dX10_hands_65 ⟨Nat.zero_le _, Nat.zero_le _⟩ (fun H locs hw => ?_)
            refine z_cVi (As := [.int r6]) (rest := []) ⟨hx, hb, hml, hown, hts⟩ hK hw hA (kX10_comeTo l D g ad (zwI σ 0 10 (0 : Int32)) r6 _ rfl) (zcwV 1 hts zgoodIn zw_357 zw_359 zw_2 zw_52 zw_360 rfl rfl hX10_comeTo ⟨Nat.le_of_ble_eq_true rfl, Nat.le_of_ble_eq_true rfl⟩) zO0_0 rfl hl.1 rfl (Nat.le_of_ble_eq_true rfl) dX10_hands_68 ⟨Nat.zero_le _, Nat.zero_le _⟩ (fun H locs hw => ?_)
            refine lv_if_eq (tgt := 78) hx hb dX10_hands_71 (by decide) (fun t8 => ?_) (fun t8 => ?_)
            · rw [if_pos t8] at h
              refine lv_iload hx hb dX10_hands_78 (lv_at hl 7 rfl) ?_
              refine lv_iconst (v := 1) hx hb dX10_hands_80 (by decide) ?_
              refine lv_icmp_lt (tgt := 123) hx hb dX10_hands_81 (by decide) (fun t9 => ?_) (fun t9 => ?_)
              · rw [if_pos t9] at h
                refine lv_ldc2 hx hb hown (hts _ zw_513) dX10_hands_123 ?_
                obtain rfl := Option.some.inj h
                exact hret _ _ _ _ hw dX10_hands_126
              · rw [if_neg t9] at h
                refine lv_iload hx hb dX10_hands_84 (lv_at hl 7 rfl) ?_
                refine lv_bipush (v := 8) hx hb dX10_hands_86 (by decide) ?_
                refine lv_icmp_gt (tgt := 123) hx hb dX10_hands_88 (by decide) (fun t10 => ?_) (fun t10 => ?_)
                · rw [if_pos t10] at h
                  refine lv_ldc2 hx hb hown (hts _ zw_513) dX10_hands_123 ?_
                  obtain rfl := Option.some.inj h
                  exact hret _ _ _ _ hw dX10_hands_126
                · rw [if_neg t10] at h
                  refine lv_aload_n hx hb dX10_hands_91 rfl (lv_at hl 0 rfl) ?_
                  refine z_getc hx hb hts zin_X10 hown hK hw zF0_0_3 (hts _ zw_299) dX10_hands_92 ?_
                  refine lv_aload_n hx hb dX10_hands_95 rfl (lv_at hl 0 rfl) ?_
                  refine z_getc hx hb hts zin_X10 hown hK hw zF0_0_0 (hts _ zw_296) dX10_hands_96 ?_
                  refine z_getc hx hb hts zin_X6 hown hK hw zF0_1_0 (hts _ zw_87) dX10_hands_99 ?_
                  refine lv_iload hx hb dX10_hands_102 (lv_at hl 4 rfl) ?_
                  obtain ⟨q11, e12, h⟩ := zbind h
                  refine z_aald hx hb hK hw e12 dX10_hands_104 ?_
                  refine lv_iload hx hb dX10_hands_105 (lv_at hl 6 rfl) ?_
                  refine lv_iload hx hb dX10_hands_107 (lv_at hl 7 rfl) ?_
                  obtain ⟨r13, e14, h⟩ := zbind h
                  refine z_cVi (As := [.ref (ad q11), .int x6, .int x7]) (rest := []) ⟨hx, hb, hml, hown, hts⟩ hK hw hA (kX2_hasAll l D g ad ((fX10_comeTo (zwI σ 0 10 (0 : Int32)) r6).2) q11 x6 x7 r13 e14) (zcwV 3 hts zgoodIn zw_514 zw_515 zw_516 zw_57 zw_517 rfl rfl hX2_hasAll ⟨Nat.le_of_ble_eq_true rfl, Nat.le_of_ble_eq_true rfl⟩) zO0_4 rfl hl.1 rfl (Nat.le_of_ble_eq_true rfl) dX10_hands_109 ⟨Nat.zero_le _, Nat.zero_le _⟩ (fun H locs hw => ?_)
                  refine lv_if_eq (tgt := 123) hx hb dX10_hands_112 (by decide) (fun t15 => ?_) (fun t15 => ?_)
                  · rw [if_pos t15] at h
                    refine lv_ldc2 hx hb hown (hts _ zw_513) dX10_hands_123 ?_
                    obtain rfl := Option.some.inj h
                    exact hret _ _ _ _ hw dX10_hands_126
                  · rw [if_neg t15] at h
                    refine lv_iload hx hb dX10_hands_115 (lv_at hl 8 rfl) ?_
                    refine z_cSi (As := [.int x8]) (rest := []) ⟨hx, hb, hml, hown, hts⟩ hK hw hA (kX10_isWhich l D g ad ((fX10_comeTo (zwI σ 0 10 (0 : Int32)) r6).2) x8 _ rfl) (zcwS 1 hts zgoodIn zw_519 zw_520 zw_52 zw_521 rfl rfl hX10_isWhich ⟨Nat.le_of_ble_eq_true rfl, Nat.le_of_ble_eq_true rfl⟩) rfl hl.1 rfl (Nat.le_of_ble_eq_true rfl) dX10_hands_117 ⟨Nat.zero_le _, Nat.zero_le _⟩ (fun H locs hw => ?_)
                    refine lv_if_ne (tgt := 127) hx hb dX10_hands_120 (by decide) (fun t16 => ?_) (fun t16 => ?_)
                    · rw [if_neg t16] at h
                      refine lv_aload_n hx hb dX10_hands_127 rfl (lv_at hl 0 rfl) ?_
                      refine z_getc hx hb hts zin_X10 hown hK hw zF0_0_6 (hts _ zw_302) dX10_hands_128 ?_
                      refine lv_iload_n hx hb dX10_hands_131 rfl (lv_at hl 2 rfl) ?_
                      obtain ⟨r17, e18, h⟩ := zbind h
                      refine z_cVv (As := [.int x2]) (rest := []) ⟨hx, hb, hml, hown, hts⟩ hK hw hA (kX1_begin l D g ad ((fX10_comeTo (zwI σ 0 10 (0 : Int32)) r6).2) x2 r17 e18) (zcwV 1 hts zgoodIn zw_478 zw_479 zw_480 zw_60 zw_481 rfl rfl hX1_begin ⟨Nat.le_of_ble_eq_true rfl, Nat.le_of_ble_eq_true rfl⟩) zO0_7 rfl hl.1 rfl (Nat.le_of_ble_eq_true rfl) dX10_hands_132 ⟨Nat.zero_le _, Nat.zero_le _⟩ (fun H locs hw => ?_)
                      refine lv_iload_n hx hb dX10_hands_135 rfl (lv_at hl 1 rfl) ?_
                      refine lv_istore (lv' := [(9, .int x1), (0, .ref (ad 0)), (1, .int x1), (2, .int x2), (3, .int x3), (4, .int x4), (5, .int x5), (6, .int x6), (7, .int x7), (8, .int x8)]) hx hb dX10_hands_136 hl (by decide) rfl (fun ls hl => ?_)
                      refine lv_iload hx hb dX10_hands_138 (lv_at hl 7 rfl) ?_
                      refine lv_istore (lv' := [(10, .int x6), (9, .int x1), (0, .ref (ad 0)), (1, .int x1), (2, .int x2), (3, .int x3), (4, .int x4), (5, .int x5), (6, .int x6), (7, .int x7), (8, .int x8)]) hx hb dX10_hands_140 hl (by decide) rfl (fun ls hl => ?_)
                      obtain ⟨b19, e20, h⟩ := zbind h
                      refine wX10_hands_142 C x3 x4 x6 x7 x8 zFU (x1, x6, r17) b19 e20 (fun H locs ls hw hl => ?_) _ _ _ hw (lv_sub hl [2, 5, 6, 8, 9, 10, 1, 0] rfl)
                      have hl : lv_has ls 12 [(0, .ref (ad 0)), (3, .int x3), (4, .int x4), (6, .int x6), (7, .int x7), (8, .int x8), (9, .int b19.1), (10, .int b19.2.1)] := hl
                      refine lv_aload_n hx hb dX10_hands_213 rfl (lv_at hl 0 rfl) ?_
                      refine z_getc hx hb hts zin_X10 hown hK hw zF0_0_6 (hts _ zw_302) dX10_hands_214 ?_
                      refine lv_iload_n hx hb dX10_hands_217 rfl (lv_at hl 1 rfl) ?_
                      refine lv_aload_n hx hb dX10_hands_218 rfl (lv_at hl 0 rfl) ?_
                      refine z_getc hx hb hts zin_X10 hown hK hw zF0_0_2 (hts _ zw_298) dX10_hands_219 ?_
                      refine z_geti hx hb hts zin_X8 hown hK hw zF0_3_0 (hts _ zw_139) dX10_hands_222 ?_
                      obtain ⟨r21, e22, h⟩ := zbind h
                      refine z_cVl (As := [.int x3, .int (zI b19.2.2 3 0)]) (rest := []) ⟨hx, hb, hml, hown, hts⟩ hK hw hA (kX1_timesAs l D g ad b19.2.2 x3 (zI b19.2.2 3 0) r21 e22) (zcwV 2 hts zgoodIn zw_494 zw_495 zw_496 zw_60 zw_497 rfl rfl hX1_timesAs ⟨Nat.le_of_ble_eq_true rfl, Nat.le_of_ble_eq_true rfl⟩) zO0_7 rfl hl.1 rfl (Nat.le_of_ble_eq_true rfl) dX10_hands_225 ⟨Nat.zero_le _, Nat.zero_le _⟩ (fun H locs hw => ?_)
                      refine lv_aload_n hx hb dX10_hands_228 rfl (lv_at hl 0 rfl) ?_
                      refine z_getc hx hb hts zin_X10 hown hK hw zF0_0_6 (hts _ zw_302) dX10_hands_229 ?_
                      refine z_getl hx hb hts zin_X1 hown hK hw zF0_7_0 (hts _ zw_221) dX10_hands_232 ?_
                      refine lv_iload hx hb dX10_hands_235 (lv_at hl 5 rfl) ?_
                      obtain ⟨r23, e24, h⟩ := zbind h
                      refine z_cSl (As := [.long r21, .long (zJ b19.2.2 7 0), .int x8]) (rest := []) ⟨hx, hb, hml, hown, hts⟩ hK hw hA (kX10_inLeastTerms l D g ad b19.2.2 r21 (zJ b19.2.2 7 0) x8 r23 e24) (zcwS 3 hts zgoodIn zw_522 zw_523 zw_52 zw_524 rfl rfl hX10_inLeastTerms ⟨Nat.le_of_ble_eq_true rfl, Nat.le_of_ble_eq_true rfl⟩) rfl hl.1 rfl (Nat.le_of_ble_eq_true rfl) dX10_hands_237 ⟨Nat.zero_le _, Nat.zero_le _⟩ (fun H locs hw => ?_)
                      obtain rfl := Option.some.inj h
                      exact hret _ _ _ _ hw dX10_hands_240
                    · rw [if_pos t16] at h
                      refine lv_ldc2 hx hb hown (hts _ zw_513) dX10_hands_123 ?_
                      obtain rfl := Option.some.inj h
                      exact hret _ _ _ _ hw dX10_hands_126
            · rw [if_neg t8] at h
              refine lv_ldc2 hx hb hown (hts _ zw_513) dX10_hands_74 ?_
              obtain rfl := Option.some.inj h
              exact hret _ _ _ _ hw dX10_hands_77
          · rw [if_pos t5] at h
            refine lv_ldc2 hx hb hown (hts _ zw_513) dX10_hands_48 ?_
            obtain rfl := Option.some.inj h
            exact hret _ _ _ _ hw dX10_hands_51
theorem hX10_witness : yX10_witness.cls = RX10 ∧ yX10_witness.cls ≠ "java/lang/invoke/MethodHandle" ∧ yX10_witness.cls ≠ "java/lang/invoke/VarHandle" ∧ (parseMethodDescriptor yX10_witness.desc).map (fun d => d.parameters.length) = some 4 := by decide +kernel
set_option maxHeartbeats 4000000 in
set_option maxRecDepth 100000 in
theorem kX10_witness (l : Launch) (D : va_G) (g : zG) (ad : Nat → Nat) (σ : zSt) (x1 : Int32) (x2 : Int32) (x3 : Int32) (x4 : Int32) (o : Int32 × zSt) (h : fX10_witness σ x1 x2 x3 x4 = some o) : zMi l D g 0 ad yX10_witness (Cond.code yX10_witness cX10_witness 7 (some .int) :: zws) (zRm 4) [.ref (ad 0), .int x1, .int x2, .int x3, .int x4] σ o.1 o.2 := by
  refine z_enter_i (by decide) (Nat.le_of_ble_eq_true rfl) ?_
  intro p e s m below meth c A ls Q C hw hl hret
  obtain ⟨hx, hb, hml, hown, hts, hK, hA⟩ := id C
  have hown : s.vm.findClass RX10 = some m.cls := hown
  have C : zCx p c cX10_witness s _ RX10 m 7 A s.heap D g := C
  have hl : lv_has ls 7 [(0, .ref (ad 0)), (1, .int x1), (2, .int x2), (3, .int x3), (4, .int x4)] := hl
  unfold fX10_witness at h
  refine lv_aload_n hx hb dX10_witness_0 rfl (lv_at hl 0 rfl) ?_
  refine lv_iload_n hx hb dX10_witness_1 rfl (lv_at hl 1 rfl) ?_
  refine lv_iload_n hx hb dX10_witness_2 rfl (lv_at hl 2 rfl) ?_
  refine z_cVi (As := [.int x1, .int x2]) (rest := []) ⟨hx, hb, hml, hown, hts⟩ hK hw hA (kX10_refuseRow l D g ad σ x1 x2 _ rfl) (zcwV 2 hts zgoodIn zw_334 zw_336 zw_0 zw_52 zw_337 rfl rfl hX10_refuseRow ⟨Nat.le_of_ble_eq_true rfl, Nat.le_of_ble_eq_true rfl⟩) zO0_0 rfl hl.1 rfl (Nat.le_of_ble_eq_true rfl) dX10_witness_3 ⟨Nat.zero_le _, Nat.zero_le _⟩ (fun H locs hw => ?_)
  refine lv_istore (lv' := [(5, .int ((fX10_refuseRow σ x1 x2).1)), (0, .ref (ad 0)), (1, .int x1), (2, .int x2), (3, .int x3), (4, .int x4)]) hx hb dX10_witness_6 hl (by decide) rfl (fun ls hl => ?_)
  refine lv_iload hx hb dX10_witness_8 (lv_at hl 0 rfl) ?_
  refine lv_if_eq (tgt := 16) hx hb dX10_witness_10 (by decide) (fun t1 => ?_) (fun t1 => ?_)
  · rw [if_pos t1] at h
    refine lv_aload_n hx hb dX10_witness_16 rfl (lv_at hl 1 rfl) ?_
    refine z_getc hx hb hts zin_X10 hown hK hw zF0_0_2 (hts _ zw_298) dX10_witness_17 ?_
    refine z_geti hx hb hts zin_X8 hown hK hw zF0_3_0 (hts _ zw_139) dX10_witness_20 ?_
    refine lv_if_ne (tgt := 29) hx hb dX10_witness_23 (by decide) (fun t2 => ?_) (fun t2 => ?_)
    · rw [if_neg t2] at h
      refine lv_aload_n hx hb dX10_witness_29 rfl (lv_at hl 1 rfl) ?_
      refine lv_aload_n hx hb dX10_witness_30 rfl (lv_at hl 1 rfl) ?_
      refine z_getc hx hb hts zin_X10 hown hK hw zF0_0_0 (hts _ zw_296) dX10_witness_31 ?_
      refine lv_iload_n hx hb dX10_witness_34 rfl (lv_at hl 2 rfl) ?_
      refine lv_iload_n hx hb dX10_witness_35 rfl (lv_at hl 3 rfl) ?_
      refine lv_iload_n hx hb dX10_witness_36 rfl (lv_at hl 4 rfl) ?_
      refine lv_iload hx hb dX10_witness_37 (lv_at hl 5 rfl) ?_
      obtain ⟨r3, e4, h⟩ := zbind h
      refine z_cVi (As := [.int x1, .int x2, .int x3, .int x4]) (rest := [.ref (ad 0)]) ⟨hx, hb, hml, hown, hts⟩ hK hw hA (kX6_faultOfCells l D g ad ((fX10_refuseRow σ x1 x2).2) x1 x2 x3 x4 r3 e4) (zcwV 4 hts zgoodIn zw_345 zw_346 zw_347 zw_53 zw_348 rfl rfl hX6_faultOfCells ⟨Nat.le_of_ble_eq_true rfl, Nat.le_of_ble_eq_true rfl⟩) zO0_1 rfl hl.1 rfl (Nat.le_of_ble_eq_true rfl) dX10_witness_39 ⟨Nat.zero_le _, Nat.zero_le _⟩ (fun H locs hw => ?_)
      refine z_cVi (As := [.int r3]) (rest := []) ⟨hx, hb, hml, hown, hts⟩ hK hw hA (kX10_comeTo l D g ad ((fX10_refuseRow σ x1 x2).2) r3 _ rfl) (zcwV 1 hts zgoodIn zw_357 zw_359 zw_2 zw_52 zw_360 rfl rfl hX10_comeTo ⟨Nat.le_of_ble_eq_true rfl, Nat.le_of_ble_eq_true rfl⟩) zO0_0 rfl hl.1 rfl (Nat.le_of_ble_eq_true rfl) dX10_witness_42 ⟨Nat.zero_le _, Nat.zero_le _⟩ (fun H locs hw => ?_)
      refine lv_istore (lv' := [(6, .int ((fX10_comeTo ((fX10_refuseRow σ x1 x2).2) r3).1)), (5, .int ((fX10_refuseRow σ x1 x2).1)), (0, .ref (ad 0)), (1, .int x1), (2, .int x2), (3, .int x3), (4, .int x4)]) hx hb dX10_witness_45 hl (by decide) rfl (fun ls hl => ?_)
      refine lv_iload hx hb dX10_witness_47 (lv_at hl 0 rfl) ?_
      refine lv_if_eq (tgt := 55) hx hb dX10_witness_49 (by decide) (fun t5 => ?_) (fun t5 => ?_)
      · rw [if_pos t5] at h
        refine lv_aload_n hx hb dX10_witness_55 rfl (lv_at hl 2 rfl) ?_
        refine z_getc hx hb hts zin_X10 hown hK hw zF0_0_1 (hts _ zw_297) dX10_witness_56 ?_
        refine lv_aload_n hx hb dX10_witness_59 rfl (lv_at hl 2 rfl) ?_
        refine z_getc hx hb hts zin_X10 hown hK hw zF0_0_0 (hts _ zw_296) dX10_witness_60 ?_
        refine z_getc hx hb hts zin_X6 hown hK hw zF0_1_0 (hts _ zw_87) dX10_witness_63 ?_
        refine lv_iload_n hx hb dX10_witness_66 rfl (lv_at hl 3 rfl) ?_
        obtain ⟨q6, e7, h⟩ := zbind h
        refine z_aald hx hb hK hw e7 dX10_witness_67 ?_
        refine lv_iload_n hx hb dX10_witness_68 rfl (lv_at hl 5 rfl) ?_
        refine lv_iload hx hb dX10_witness_69 (lv_at hl 6 rfl) ?_
        refine z_cVv (As := [.ref (ad q6), .int x3, .int x4]) (rest := []) ⟨hx, hb, hml, hown, hts⟩ hK hw hA (kX5_open l D g ad ((fX10_comeTo ((fX10_refuseRow σ x1 x2).2) r3).2) q6 x3 x4 _ rfl) (zcwV 3 hts zgoodIn zw_361 zw_362 zw_363 zw_55 zw_364 rfl rfl hX5_open ⟨Nat.le_of_ble_eq_true rfl, Nat.le_of_ble_eq_true rfl⟩) zO0_2 rfl hl.1 rfl (Nat.le_of_ble_eq_true rfl) dX10_witness_71 ⟨Nat.zero_le _, Nat.zero_le _⟩ (fun H locs hw => ?_)
        refine lv_aload_n hx hb dX10_witness_74 rfl (lv_at hl 2 rfl) ?_
        refine z_getc hx hb hts zin_X10 hown hK hw zF0_0_1 (hts _ zw_297) dX10_witness_75 ?_
        refine lv_aload_n hx hb dX10_witness_78 rfl (lv_at hl 2 rfl) ?_
        refine z_getc hx hb hts zin_X10 hown hK hw zF0_0_2 (hts _ zw_298) dX10_witness_79 ?_
        refine z_geti hx hb hts zin_X8 hown hK hw zF0_3_0 (hts _ zw_139) dX10_witness_82 ?_
        obtain ⟨r8, e9, h⟩ := zbind h
        refine z_cVi (As := [.int (zI (fX5_open ((fX10_comeTo ((fX10_refuseRow σ x1 x2).2) r3).2) q6 x3 x4) 3 0)]) (rest := []) ⟨hx, hb, hml, hown, hts⟩ hK hw hA (kX5_readsWitness l D g ad (fX5_open ((fX10_comeTo ((fX10_refuseRow σ x1 x2).2) r3).2) q6 x3 x4) (zI (fX5_open ((fX10_comeTo ((fX10_refuseRow σ x1 x2).2) r3).2) q6 x3 x4) 3 0) r8 e9) (zcwV 1 hts zgoodIn zw_532 zw_533 zw_534 zw_55 zw_535 rfl rfl hX5_readsWitness ⟨Nat.le_of_ble_eq_true rfl, Nat.le_of_ble_eq_true rfl⟩) zO0_2 rfl hl.1 rfl (Nat.le_of_ble_eq_true rfl) dX10_witness_85 ⟨Nat.zero_le _, Nat.zero_le _⟩ (fun H locs hw => ?_)
        refine lv_if_ne (tgt := 102) hx hb dX10_witness_88 (by decide) (fun t10 => ?_) (fun t10 => ?_)
        · rw [if_neg t10] at h
          refine lv_aload_n hx hb dX10_witness_102 rfl (lv_at hl 2 rfl) ?_
          refine z_getc hx hb hts zin_X10 hown hK hw zF0_0_4 (hts _ zw_300) dX10_witness_103 ?_
          refine lv_aload_n hx hb dX10_witness_106 rfl (lv_at hl 2 rfl) ?_
          refine z_getc hx hb hts zin_X10 hown hK hw zF0_0_1 (hts _ zw_297) dX10_witness_107 ?_
          refine z_getc hx hb hts zin_X5 hown hK hw zF0_2_0 (hts _ zw_106) dX10_witness_110 ?_
          refine lv_aload_n hx hb dX10_witness_113 rfl (lv_at hl 2 rfl) ?_
          refine z_getc hx hb hts zin_X10 hown hK hw zF0_0_2 (hts _ zw_298) dX10_witness_114 ?_
          refine z_geti hx hb hts zin_X8 hown hK hw zF0_3_0 (hts _ zw_139) dX10_witness_117 ?_
          refine lv_aload_n hx hb dX10_witness_120 rfl (lv_at hl 2 rfl) ?_
          refine z_getc hx hb hts zin_X10 hown hK hw zF0_0_1 (hts _ zw_297) dX10_witness_121 ?_
          refine z_geti hx hb hts zin_X5 hown hK hw zF0_2_2 (hts _ zw_110) dX10_witness_124 ?_
          obtain ⟨r11, e12, h⟩ := zbind h
          refine z_cVv (As := [.ref (ad 18), .int (zI r8.2 3 0), .int (zI r8.2 2 2)]) (rest := []) ⟨hx, hb, hml, hown, hts⟩ hK hw hA (kX9_take l D g ad r8.2 18 (zI r8.2 3 0) (zI r8.2 2 2) r11 e12) (zcwV 3 hts zgoodIn zw_536 zw_537 zw_538 zw_58 zw_539 rfl rfl hX9_take ⟨Nat.le_of_ble_eq_true rfl, Nat.le_of_ble_eq_true rfl⟩) zO0_5 rfl hl.1 rfl (Nat.le_of_ble_eq_true rfl) dX10_witness_127 ⟨Nat.zero_le _, Nat.zero_le _⟩ (fun H locs hw => ?_)
          refine lv_aload_n hx hb dX10_witness_130 rfl (lv_at hl 2 rfl) ?_
          refine z_getc hx hb hts zin_X10 hown hK hw zF0_0_7 (hts _ zw_303) dX10_witness_131 ?_
          refine z_cVv (As := []) (rest := []) ⟨hx, hb, hml, hown, hts⟩ hK hw hA (kX4_clear l D g ad r11 _ rfl) (zcwV 0 hts zgoodIn zw_404 zw_405 zw_406 zw_61 zw_407 rfl rfl hX4_clear ⟨Nat.le_of_ble_eq_true rfl, Nat.le_of_ble_eq_true rfl⟩) zO0_8 rfl hl.1 rfl (Nat.le_of_ble_eq_true rfl) dX10_witness_134 ⟨Nat.zero_le _, Nat.zero_le _⟩ (fun H locs hw => ?_)
          refine lv_iconst (v := 1) hx hb dX10_witness_137 (by decide) ?_
          obtain rfl := Option.some.inj h
          exact hret _ _ _ _ hw rfl dX10_witness_138
        · rw [if_pos t10] at h
          refine lv_bipush (v := (-100)) hx hb dX10_witness_91 (by decide) ?_
          refine lv_aload_n hx hb dX10_witness_93 rfl (lv_at hl 2 rfl) ?_
          refine z_getc hx hb hts zin_X10 hown hK hw zF0_0_1 (hts _ zw_297) dX10_witness_94 ?_
          refine z_cVi (As := []) (rest := [.int (-100 : Int32)]) ⟨hx, hb, hml, hown, hts⟩ hK hw hA (kX5_place l D g ad r8.2 _ rfl) (zcwV 0 hts zgoodIn zw_388 zw_389 zw_390 zw_55 zw_391 rfl rfl hX5_place ⟨Nat.le_of_ble_eq_true rfl, Nat.le_of_ble_eq_true rfl⟩) zO0_2 rfl hl.1 rfl (Nat.le_of_ble_eq_true rfl) dX10_witness_97 ⟨Nat.zero_le _, Nat.zero_le _⟩ (fun H locs hw => ?_)
          refine lv_isub hx hb dX10_witness_100 ?_
          obtain rfl := Option.some.inj h
          exact hret _ _ _ _ hw rfl dX10_witness_101
      · rw [if_neg t5] at h
        refine lv_iload hx hb dX10_witness_52 (lv_at hl 0 rfl) ?_
        obtain rfl := Option.some.inj h
        exact hret _ _ _ _ hw rfl dX10_witness_54
    · rw [if_pos t2] at h
      refine lv_bipush (v := (-3)) hx hb dX10_witness_26 (by decide) ?_
      obtain rfl := Option.some.inj h
      exact hret _ _ _ _ hw rfl dX10_witness_28
  · rw [if_neg t1] at h
    refine lv_iload hx hb dX10_witness_13 (lv_at hl 0 rfl) ?_
    obtain rfl := Option.some.inj h
    exact hret _ _ _ _ hw rfl dX10_witness_15
theorem hX10_answers : yX10_answers.cls = RX10 ∧ yX10_answers.cls ≠ "java/lang/invoke/MethodHandle" ∧ yX10_answers.cls ≠ "java/lang/invoke/VarHandle" ∧ (parseMethodDescriptor yX10_answers.desc).map (fun d => d.parameters.length) = some 2 := by decide +kernel
set_option maxHeartbeats 4000000 in
set_option maxRecDepth 100000 in
theorem kX10_answers (l : Launch) (D : va_G) (g : zG) (ad : Nat → Nat) (σ : zSt) (x1 : Int32) (x2 : Int32) (o : Int32) (h : fX10_answers σ x1 x2 = some o) : zMi l D g 0 ad yX10_answers (Cond.code yX10_answers cX10_answers 3 (some .int) :: zws) (zRm 1) [.ref (ad 0), .int x1, .int x2] σ o σ := by
  refine z_enter_i (by decide) (Nat.le_of_ble_eq_true rfl) ?_
  intro p e s m below meth c A ls Q C hw hl hret
  obtain ⟨hx, hb, hml, hown, hts, hK, hA⟩ := id C
  have hown : s.vm.findClass RX10 = some m.cls := hown
  have C : zCx p c cX10_answers s _ RX10 m 3 A s.heap D g := C
  have hl : lv_has ls 3 [(0, .ref (ad 0)), (1, .int x1), (2, .int x2)] := hl
  unfold fX10_answers at h
  refine lv_aload_n hx hb dX10_answers_0 rfl (lv_at hl 0 rfl) ?_
  refine lv_iload_n hx hb dX10_answers_1 rfl (lv_at hl 1 rfl) ?_
  refine z_cVi (As := [.int x1]) (rest := []) ⟨hx, hb, hml, hown, hts⟩ hK hw hA (kX10_isWord l D g ad σ x1 _ rfl) (zcwV 1 hts zgoodIn zw_412 zw_414 zw_8 zw_52 zw_415 rfl rfl hX10_isWord ⟨Nat.le_of_ble_eq_true rfl, Nat.le_of_ble_eq_true rfl⟩) zO0_0 rfl hl.1 rfl (Nat.le_of_ble_eq_true rfl) dX10_answers_2 ⟨Nat.zero_le _, Nat.zero_le _⟩ (fun H locs hw => ?_)
  refine lv_if_eq (tgt := 16) hx hb dX10_answers_5 (by decide) (fun t1 => ?_) (fun t1 => ?_)
  · rw [if_pos t1] at h
    refine lv_iconst (v := (-1)) hx hb dX10_answers_16 (by decide) ?_
    obtain rfl := Option.some.inj h
    exact hret _ _ _ _ hw rfl dX10_answers_17
  · rw [if_neg t1] at h
    refine lv_aload_n hx hb dX10_answers_8 rfl (lv_at hl 0 rfl) ?_
    refine lv_iload_n hx hb dX10_answers_9 rfl (lv_at hl 2 rfl) ?_
    refine z_cVi (As := [.int x2]) (rest := []) ⟨hx, hb, hml, hown, hts⟩ hK hw hA (kX10_isWordOrNothing l D g ad σ x2 _ rfl) (zcwV 1 hts zgoodIn zw_416 zw_418 zw_9 zw_52 zw_419 rfl rfl hX10_isWordOrNothing ⟨Nat.le_of_ble_eq_true rfl, Nat.le_of_ble_eq_true rfl⟩) zO0_0 rfl hl.1 rfl (Nat.le_of_ble_eq_true rfl) dX10_answers_10 ⟨Nat.zero_le _, Nat.zero_le _⟩ (fun H locs hw => ?_)
    refine lv_if_ne (tgt := 18) hx hb dX10_answers_13 (by decide) (fun t2 => ?_) (fun t2 => ?_)
    · rw [if_neg t2] at h
      refine lv_aload_n hx hb dX10_answers_18 rfl (lv_at hl 0 rfl) ?_
      refine z_getc hx hb hts zin_X10 hown hK hw zF0_0_4 (hts _ zw_300) dX10_answers_19 ?_
      refine z_geti hx hb hts zin_X9 hown hK hw zF0_5_1 (hts _ zw_184) dX10_answers_22 ?_
      refine lv_if_eq (tgt := 42) hx hb dX10_answers_25 (by decide) (fun t3 => ?_) (fun t3 => ?_)
      · rw [if_pos t3] at h
        refine lv_bipush (v := (-3)) hx hb dX10_answers_42 (by decide) ?_
        obtain rfl := Option.some.inj h
        exact hret _ _ _ _ hw rfl dX10_answers_44
      · rw [if_neg t3] at h
        refine lv_aload_n hx hb dX10_answers_28 rfl (lv_at hl 0 rfl) ?_
        refine z_getc hx hb hts zin_X10 hown hK hw zF0_0_4 (hts _ zw_300) dX10_answers_29 ?_
        refine z_getc hx hb hts zin_X9 hown hK hw zF0_5_0 (hts _ zw_182) dX10_answers_32 ?_
        refine lv_iload_n hx hb dX10_answers_35 rfl (lv_at hl 1 rfl) ?_
        obtain ⟨q4, e5, h⟩ := zbind h
        refine z_aald hx hb hK hw e5 dX10_answers_36 ?_
        refine lv_iload_n hx hb dX10_answers_37 rfl (lv_at hl 2 rfl) ?_
        obtain ⟨v6, e7, h⟩ := zbind h
        refine z_iald hx hb hK hw e7 dX10_answers_38 ?_
        refine lv_goto (tgt := 44) hx hb dX10_answers_39 (by decide) ?_
        obtain rfl := Option.some.inj h
        exact hret _ _ _ _ hw rfl dX10_answers_44
    · rw [if_pos t2] at h
      refine lv_iconst (v := (-1)) hx hb dX10_answers_16 (by decide) ?_
      obtain rfl := Option.some.inj h
      exact hret _ _ _ _ hw rfl dX10_answers_17
theorem hX10_heard : yX10_heard.cls = RX10 ∧ yX10_heard.cls ≠ "java/lang/invoke/MethodHandle" ∧ yX10_heard.cls ≠ "java/lang/invoke/VarHandle" ∧ (parseMethodDescriptor yX10_heard.desc).map (fun d => d.parameters.length) = some 4 := by decide +kernel
set_option maxHeartbeats 4000000 in
set_option maxRecDepth 100000 in
theorem kX10_heard (l : Launch) (D : va_G) (g : zG) (ad : Nat → Nat) (σ : zSt) (x1 : Int32) (x2 : Int32) (x3 : Int32) (x4 : Int32) (o : Int64 × zSt) (h : fX10_heard σ x1 x2 x3 x4 = some o) : zMl l D g 0 ad yX10_heard (Cond.code yX10_heard cX10_heard 6 (some .long) :: zws) (zRm 4) [.ref (ad 0), .int x1, .int x2, .int x3, .int x4] σ o.1 o.2 := by
  refine z_enter_l (by decide) (Nat.le_of_ble_eq_true rfl) ?_
  intro p e s m below meth c A ls Q C hw hl hret
  obtain ⟨hx, hb, hml, hown, hts, hK, hA⟩ := id C
  have hown : s.vm.findClass RX10 = some m.cls := hown
  have C : zCx p c cX10_heard s _ RX10 m 6 A s.heap D g := C
  have hl : lv_has ls 6 [(0, .ref (ad 0)), (1, .int x1), (2, .int x2), (3, .int x3), (4, .int x4)] := hl
  unfold fX10_heard at h
  refine lv_aload_n hx hb dX10_heard_0 rfl (lv_at hl 0 rfl) ?_
  refine z_getc hx hb hts zin_X10 hown hK hw zF0_0_3 (hts _ zw_299) dX10_heard_1 ?_
  refine lv_iload_n hx hb dX10_heard_4 rfl (lv_at hl 1 rfl) ?_
  refine z_cVi (As := [.int x1]) (rest := []) ⟨hx, hb, hml, hown, hts⟩ hK hw hA (kX2_has l D g ad σ x1 _ rfl) (zcwV 1 hts zgoodIn zw_466 zw_467 zw_468 zw_57 zw_469 rfl rfl hX2_has ⟨Nat.le_of_ble_eq_true rfl, Nat.le_of_ble_eq_true rfl⟩) zO0_4 rfl hl.1 rfl (Nat.le_of_ble_eq_true rfl) dX10_heard_5 ⟨Nat.zero_le _, Nat.zero_le _⟩ (fun H locs hw => ?_)
  refine lv_if_eq (tgt := 45) hx hb dX10_heard_8 (by decide) (fun t1 => ?_) (fun t1 => ?_)
  · rw [if_pos t1] at h
    refine lv_ldc2 hx hb hown (hts _ zw_513) dX10_heard_45 ?_
    obtain rfl := Option.some.inj h
    exact hret _ _ _ _ hw dX10_heard_48
  · rw [if_neg t1] at h
    refine lv_aload_n hx hb dX10_heard_11 rfl (lv_at hl 0 rfl) ?_
    refine lv_iload_n hx hb dX10_heard_12 rfl (lv_at hl 2 rfl) ?_
    refine z_cVi (As := [.int x2]) (rest := []) ⟨hx, hb, hml, hown, hts⟩ hK hw hA (kX10_isWord l D g ad σ x2 _ rfl) (zcwV 1 hts zgoodIn zw_412 zw_414 zw_8 zw_52 zw_415 rfl rfl hX10_isWord ⟨Nat.le_of_ble_eq_true rfl, Nat.le_of_ble_eq_true rfl⟩) zO0_0 rfl hl.1 rfl (Nat.le_of_ble_eq_true rfl) dX10_heard_13 ⟨Nat.zero_le _, Nat.zero_le _⟩ (fun H locs hw => ?_)
    refine lv_if_eq (tgt := 45) hx hb dX10_heard_16 (by decide) (fun t2 => ?_) (fun t2 => ?_)
    · rw [if_pos t2] at h
      refine lv_ldc2 hx hb hown (hts _ zw_513) dX10_heard_45 ?_
      obtain rfl := Option.some.inj h
      exact hret _ _ _ _ hw dX10_heard_48
    · rw [if_neg t2] at h
      refine lv_aload_n hx hb dX10_heard_19 rfl (lv_at hl 0 rfl) ?_
      refine lv_iload_n hx hb dX10_heard_20 rfl (lv_at hl 3 rfl) ?_
      refine z_cVi (As := [.int x3]) (rest := []) ⟨hx, hb, hml, hown, hts⟩ hK hw hA (kX10_isWordOrNothing l D g ad σ x3 _ rfl) (zcwV 1 hts zgoodIn zw_416 zw_418 zw_9 zw_52 zw_419 rfl rfl hX10_isWordOrNothing ⟨Nat.le_of_ble_eq_true rfl, Nat.le_of_ble_eq_true rfl⟩) zO0_0 rfl hl.1 rfl (Nat.le_of_ble_eq_true rfl) dX10_heard_21 ⟨Nat.zero_le _, Nat.zero_le _⟩ (fun H locs hw => ?_)
      refine lv_if_eq (tgt := 45) hx hb dX10_heard_24 (by decide) (fun t3 => ?_) (fun t3 => ?_)
      · rw [if_pos t3] at h
        refine lv_ldc2 hx hb hown (hts _ zw_513) dX10_heard_45 ?_
        obtain rfl := Option.some.inj h
        exact hret _ _ _ _ hw dX10_heard_48
      · rw [if_neg t3] at h
        refine lv_iload hx hb dX10_heard_27 (lv_at hl 4 rfl) ?_
        refine z_cSi (As := [.int x4]) (rest := []) ⟨hx, hb, hml, hown, hts⟩ hK hw hA (kX10_isWhich l D g ad σ x4 _ rfl) (zcwS 1 hts zgoodIn zw_519 zw_520 zw_52 zw_521 rfl rfl hX10_isWhich ⟨Nat.le_of_ble_eq_true rfl, Nat.le_of_ble_eq_true rfl⟩) rfl hl.1 rfl (Nat.le_of_ble_eq_true rfl) dX10_heard_29 ⟨Nat.zero_le _, Nat.zero_le _⟩ (fun H locs hw => ?_)
        refine lv_if_eq (tgt := 45) hx hb dX10_heard_32 (by decide) (fun t4 => ?_) (fun t4 => ?_)
        · rw [if_pos t4] at h
          refine lv_ldc2 hx hb hown (hts _ zw_513) dX10_heard_45 ?_
          obtain rfl := Option.some.inj h
          exact hret _ _ _ _ hw dX10_heard_48
        · rw [if_neg t4] at h
          refine lv_aload_n hx hb dX10_heard_35 rfl (lv_at hl 0 rfl) ?_
          refine z_getc hx hb hts zin_X10 hown hK hw zF0_0_4 (hts _ zw_300) dX10_heard_36 ?_
          refine z_geti hx hb hts zin_X9 hown hK hw zF0_5_1 (hts _ zw_184) dX10_heard_39 ?_
          refine lv_if_ne (tgt := 49) hx hb dX10_heard_42 (by decide) (fun t5 => ?_) (fun t5 => ?_)
          · rw [if_neg t5] at h
            refine lv_aload_n hx hb dX10_heard_49 rfl (lv_at hl 0 rfl) ?_
            refine z_getc hx hb hts zin_X10 hown hK hw zF0_0_5 (hts _ zw_301) dX10_heard_50 ?_
            refine lv_aload_n hx hb dX10_heard_53 rfl (lv_at hl 0 rfl) ?_
            refine z_getc hx hb hts zin_X10 hown hK hw zF0_0_3 (hts _ zw_299) dX10_heard_54 ?_
            refine z_getc hx hb hts zin_X2 hown hK hw zF0_4_0 (hts _ zw_157) dX10_heard_57 ?_
            refine lv_iload_n hx hb dX10_heard_60 rfl (lv_at hl 1 rfl) ?_
            obtain ⟨v6, e7, h⟩ := zbind h
            refine z_iald hx hb hK hw e7 dX10_heard_61 ?_
            refine lv_aload_n hx hb dX10_heard_62 rfl (lv_at hl 0 rfl) ?_
            refine z_getc hx hb hts zin_X10 hown hK hw zF0_0_3 (hts _ zw_299) dX10_heard_63 ?_
            refine z_getc hx hb hts zin_X2 hown hK hw zF0_4_1 (hts _ zw_159) dX10_heard_66 ?_
            refine lv_iload_n hx hb dX10_heard_69 rfl (lv_at hl 1 rfl) ?_
            obtain ⟨v8, e9, h⟩ := zbind h
            refine z_iald hx hb hK hw e9 dX10_heard_70 ?_
            obtain ⟨r10, e11, h⟩ := zbind h
            refine z_cVv (As := [.int v6, .int v8]) (rest := []) ⟨hx, hb, hml, hown, hts⟩ hK hw hA (kX3_through l D g ad σ v6 v8 r10 e11) (zcwV 2 hts zgoodIn zw_548 zw_549 zw_550 zw_59 zw_551 rfl rfl hX3_through ⟨Nat.le_of_ble_eq_true rfl, Nat.le_of_ble_eq_true rfl⟩) zO0_6 rfl hl.1 rfl (Nat.le_of_ble_eq_true rfl) dX10_heard_71 ⟨Nat.zero_le _, Nat.zero_le _⟩ (fun H locs hw => ?_)
            refine lv_iload_n hx hb dX10_heard_74 rfl (lv_at hl 3 rfl) ?_
            refine lv_aload_n hx hb dX10_heard_75 rfl (lv_at hl 0 rfl) ?_
            refine z_getc hx hb hts zin_X10 hown hK hw zF0_0_2 (hts _ zw_298) dX10_heard_76 ?_
            refine z_geti hx hb hts zin_X8 hown hK hw zF0_3_0 (hts _ zw_139) dX10_heard_79 ?_
            refine lv_icmp_ne (tgt := 96) hx hb dX10_heard_82 (by decide) (fun t12 => ?_) (fun t12 => ?_)
            · rw [if_neg t12] at h
              refine lv_aload_n hx hb dX10_heard_96 rfl (lv_at hl 0 rfl) ?_
              refine z_getc hx hb hts zin_X10 hown hK hw zF0_0_5 (hts _ zw_301) dX10_heard_97 ?_
              refine lv_iload_n hx hb dX10_heard_100 rfl (lv_at hl 2 rfl) ?_
              refine lv_iload_n hx hb dX10_heard_101 rfl (lv_at hl 3 rfl) ?_
              obtain ⟨r13, e14, h⟩ := zbind h
              refine z_cVi (As := [.int x2, .int x3]) (rest := []) ⟨hx, hb, hml, hown, hts⟩ hK hw hA (kX3_heardTimes l D g ad r10 x2 x3 r13 e14) (zcwV 2 hts zgoodIn zw_570 zw_559 zw_560 zw_59 zw_561 rfl rfl hX3_heardTimes ⟨Nat.le_of_ble_eq_true rfl, Nat.le_of_ble_eq_true rfl⟩) zO0_6 rfl hl.1 rfl (Nat.le_of_ble_eq_true rfl) dX10_heard_102 ⟨Nat.zero_le _, Nat.zero_le _⟩ (fun H locs hw => ?_)
              refine lv_istore (lv' := [(5, .int r13), (0, .ref (ad 0)), (1, .int x1), (2, .int x2), (3, .int x3), (4, .int x4)]) hx hb dX10_heard_105 hl (by decide) rfl (fun ls hl => ?_)
              refine lv_iload hx hb dX10_heard_107 (lv_at hl 0 rfl) ?_
              refine lv_i2l hx hb dX10_heard_109 rfl ?_
              refine lv_ldc2 hx hb hown (hts _ zw_571) dX10_heard_110 ?_
              refine lv_iload hx hb dX10_heard_113 (lv_at hl 5 rfl) ?_
              obtain ⟨r15, e16, h⟩ := zbind h
              refine z_cSl (As := [.long r13.toInt64, .long (2985984 : Int64), .int x4]) (rest := []) ⟨hx, hb, hml, hown, hts⟩ hK hw hA (kX10_inLeastTerms l D g ad r10 r13.toInt64 (2985984 : Int64) x4 r15 e16) (zcwS 3 hts zgoodIn zw_522 zw_523 zw_52 zw_524 rfl rfl hX10_inLeastTerms ⟨Nat.le_of_ble_eq_true rfl, Nat.le_of_ble_eq_true rfl⟩) rfl hl.1 rfl (Nat.le_of_ble_eq_true rfl) dX10_heard_115 ⟨Nat.zero_le _, Nat.zero_le _⟩ (fun H locs hw => ?_)
              obtain rfl := Option.some.inj h
              exact hret _ _ _ _ hw dX10_heard_118
            · rw [if_pos t12] at h
              refine lv_aload_n hx hb dX10_heard_85 rfl (lv_at hl 0 rfl) ?_
              refine z_getc hx hb hts zin_X10 hown hK hw zF0_0_5 (hts _ zw_301) dX10_heard_86 ?_
              refine lv_iload_n hx hb dX10_heard_89 rfl (lv_at hl 2 rfl) ?_
              obtain ⟨r17, e18, h⟩ := zbind h
              refine z_cVi (As := [.int x2]) (rest := []) ⟨hx, hb, hml, hown, hts⟩ hK hw hA (kX3_nothing l D g ad r10 x2 r17 e18) (zcwV 1 hts zgoodIn zw_553 zw_554 zw_555 zw_59 zw_556 rfl rfl hX3_nothing ⟨Nat.le_of_ble_eq_true rfl, Nat.le_of_ble_eq_true rfl⟩) zO0_6 rfl hl.1 rfl (Nat.le_of_ble_eq_true rfl) dX10_heard_90 ⟨Nat.zero_le _, Nat.zero_le _⟩ (fun H locs hw => ?_)
              refine lv_goto (tgt := 105) hx hb dX10_heard_93 (by decide) ?_
              refine lv_istore (lv' := [(5, .int r17), (0, .ref (ad 0)), (1, .int x1), (2, .int x2), (3, .int x3), (4, .int x4)]) hx hb dX10_heard_105 hl (by decide) rfl (fun ls hl => ?_)
              refine lv_iload hx hb dX10_heard_107 (lv_at hl 0 rfl) ?_
              refine lv_i2l hx hb dX10_heard_109 rfl ?_
              refine lv_ldc2 hx hb hown (hts _ zw_571) dX10_heard_110 ?_
              refine lv_iload hx hb dX10_heard_113 (lv_at hl 5 rfl) ?_
              obtain ⟨r19, e20, h⟩ := zbind h
              refine z_cSl (As := [.long r17.toInt64, .long (2985984 : Int64), .int x4]) (rest := []) ⟨hx, hb, hml, hown, hts⟩ hK hw hA (kX10_inLeastTerms l D g ad r10 r17.toInt64 (2985984 : Int64) x4 r19 e20) (zcwS 3 hts zgoodIn zw_522 zw_523 zw_52 zw_524 rfl rfl hX10_inLeastTerms ⟨Nat.le_of_ble_eq_true rfl, Nat.le_of_ble_eq_true rfl⟩) rfl hl.1 rfl (Nat.le_of_ble_eq_true rfl) dX10_heard_115 ⟨Nat.zero_le _, Nat.zero_le _⟩ (fun H locs hw => ?_)
              obtain rfl := Option.some.inj h
              exact hret _ _ _ _ hw dX10_heard_118
          · rw [if_pos t5] at h
            refine lv_ldc2 hx hb hown (hts _ zw_513) dX10_heard_45 ?_
            obtain rfl := Option.some.inj h
            exact hret _ _ _ _ hw dX10_heard_48
