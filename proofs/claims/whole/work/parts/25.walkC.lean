/-! walks: X10_refusesHeard, X10_reached, X10_said, X10_over, X10_ask, X10_turn, X10_ofTurn, X10_back, X10_wrong, X10_again, X10_shifts, X10_booth, X10_sheet, X10_lose, X10_put, X10_cell -/
theorem hX10_refusesHeard : yX10_refusesHeard.cls = RX10 ∧ yX10_refusesHeard.cls ≠ "java/lang/invoke/MethodHandle" ∧ yX10_refusesHeard.cls ≠ "java/lang/invoke/VarHandle" ∧ (parseMethodDescriptor yX10_refusesHeard.desc).map (fun d => d.parameters.length) = some 4 := by decide +kernel
set_option maxHeartbeats 4000000 in
set_option maxRecDepth 100000 in
theorem kX10_refusesHeard (l : Launch) (D : va_G) (g : zG) (ad : Nat → Nat) (σ : zSt) (x1 : Int32) (x2 : Int32) (x3 : Int32) (x4 : Int32) (o : Int32) (h : fX10_refusesHeard σ x1 x2 x3 x4 = o) : zMi l D g 0 ad yX10_refusesHeard (Cond.code yX10_refusesHeard cX10_refusesHeard 5 (some .boolean) :: zws) (zRm 1) [.ref (ad 0), .int x1, .int x2, .int x3, .int x4] σ o σ := by
  refine z_enter_i (by decide) (Nat.le_of_ble_eq_true rfl) ?_
  intro p e s m below meth c A ls Q C hw hl hret
  obtain ⟨hx, hb, hml, hown, hts, hK, hA⟩ := id C
  have hown : s.vm.findClass RX10 = some m.cls := hown
  have C : zCx p c cX10_refusesHeard s _ RX10 m 5 A s.heap D g := C
  have hl : lv_has ls 5 [(0, .ref (ad 0)), (1, .int x1), (2, .int x2), (3, .int x3), (4, .int x4)] := hl
  unfold fX10_refusesHeard at h
  refine lv_aload_n hx hb dX10_refusesHeard_0 rfl (lv_at hl 0 rfl) ?_
  refine z_getc hx hb hts zin_X10 hown hK hw zF0_0_3 (hts _ zw_299) dX10_refusesHeard_1 ?_
  refine lv_iload_n hx hb dX10_refusesHeard_4 rfl (lv_at hl 1 rfl) ?_
  refine z_cVi (As := [.int x1]) (rest := []) ⟨hx, hb, hml, hown, hts⟩ hK hw hA (kX2_has l D g ad σ x1 _ rfl) (zcwV 1 hts zgoodIn zw_466 zw_467 zw_468 zw_57 zw_469 rfl rfl hX2_has ⟨Nat.le_of_ble_eq_true rfl, Nat.le_of_ble_eq_true rfl⟩) zO0_4 rfl hl.1 rfl (Nat.le_of_ble_eq_true rfl) dX10_refusesHeard_5 ⟨Nat.zero_le _, Nat.zero_le _⟩ (fun H locs hw => ?_)
  refine lv_if_eq (tgt := 45) hx hb dX10_refusesHeard_8 (by decide) (fun t1 => ?_) (fun t1 => ?_)
  · rw [if_pos t1] at h
    refine lv_iconst (v := 1) hx hb dX10_refusesHeard_45 (by decide) ?_
    refine lv_goto (tgt := 50) hx hb dX10_refusesHeard_46 (by decide) ?_
    subst h
    exact hret _ _ _ _ hw zb1 dX10_refusesHeard_50
  · rw [if_neg t1] at h
    refine lv_aload_n hx hb dX10_refusesHeard_11 rfl (lv_at hl 0 rfl) ?_
    refine lv_iload_n hx hb dX10_refusesHeard_12 rfl (lv_at hl 2 rfl) ?_
    refine z_cVi (As := [.int x2]) (rest := []) ⟨hx, hb, hml, hown, hts⟩ hK hw hA (kX10_isWord l D g ad σ x2 _ rfl) (zcwV 1 hts zgoodIn zw_412 zw_414 zw_8 zw_52 zw_415 rfl rfl hX10_isWord ⟨Nat.le_of_ble_eq_true rfl, Nat.le_of_ble_eq_true rfl⟩) zO0_0 rfl hl.1 rfl (Nat.le_of_ble_eq_true rfl) dX10_refusesHeard_13 ⟨Nat.zero_le _, Nat.zero_le _⟩ (fun H locs hw => ?_)
    refine lv_if_eq (tgt := 45) hx hb dX10_refusesHeard_16 (by decide) (fun t2 => ?_) (fun t2 => ?_)
    · rw [if_pos t2] at h
      refine lv_iconst (v := 1) hx hb dX10_refusesHeard_45 (by decide) ?_
      refine lv_goto (tgt := 50) hx hb dX10_refusesHeard_46 (by decide) ?_
      subst h
      exact hret _ _ _ _ hw zb1 dX10_refusesHeard_50
    · rw [if_neg t2] at h
      refine lv_aload_n hx hb dX10_refusesHeard_19 rfl (lv_at hl 0 rfl) ?_
      refine lv_iload_n hx hb dX10_refusesHeard_20 rfl (lv_at hl 3 rfl) ?_
      refine z_cVi (As := [.int x3]) (rest := []) ⟨hx, hb, hml, hown, hts⟩ hK hw hA (kX10_isWord l D g ad σ x3 _ rfl) (zcwV 1 hts zgoodIn zw_412 zw_414 zw_8 zw_52 zw_415 rfl rfl hX10_isWord ⟨Nat.le_of_ble_eq_true rfl, Nat.le_of_ble_eq_true rfl⟩) zO0_0 rfl hl.1 rfl (Nat.le_of_ble_eq_true rfl) dX10_refusesHeard_21 ⟨Nat.zero_le _, Nat.zero_le _⟩ (fun H locs hw => ?_)
      refine lv_if_eq (tgt := 45) hx hb dX10_refusesHeard_24 (by decide) (fun t3 => ?_) (fun t3 => ?_)
      · rw [if_pos t3] at h
        refine lv_iconst (v := 1) hx hb dX10_refusesHeard_45 (by decide) ?_
        refine lv_goto (tgt := 50) hx hb dX10_refusesHeard_46 (by decide) ?_
        subst h
        exact hret _ _ _ _ hw zb1 dX10_refusesHeard_50
      · rw [if_neg t3] at h
        refine lv_iload hx hb dX10_refusesHeard_27 (lv_at hl 4 rfl) ?_
        refine z_cSi (As := [.int x4]) (rest := []) ⟨hx, hb, hml, hown, hts⟩ hK hw hA (kX10_isWhich l D g ad σ x4 _ rfl) (zcwS 1 hts zgoodIn zw_519 zw_520 zw_52 zw_521 rfl rfl hX10_isWhich ⟨Nat.le_of_ble_eq_true rfl, Nat.le_of_ble_eq_true rfl⟩) rfl hl.1 rfl (Nat.le_of_ble_eq_true rfl) dX10_refusesHeard_29 ⟨Nat.zero_le _, Nat.zero_le _⟩ (fun H locs hw => ?_)
        refine lv_if_eq (tgt := 45) hx hb dX10_refusesHeard_32 (by decide) (fun t4 => ?_) (fun t4 => ?_)
        · rw [if_pos t4] at h
          refine lv_iconst (v := 1) hx hb dX10_refusesHeard_45 (by decide) ?_
          refine lv_goto (tgt := 50) hx hb dX10_refusesHeard_46 (by decide) ?_
          subst h
          exact hret _ _ _ _ hw zb1 dX10_refusesHeard_50
        · rw [if_neg t4] at h
          refine lv_aload_n hx hb dX10_refusesHeard_35 rfl (lv_at hl 0 rfl) ?_
          refine z_getc hx hb hts zin_X10 hown hK hw zF0_0_4 (hts _ zw_300) dX10_refusesHeard_36 ?_
          refine z_geti hx hb hts zin_X9 hown hK hw zF0_5_1 (hts _ zw_184) dX10_refusesHeard_39 ?_
          refine lv_if_ne (tgt := 49) hx hb dX10_refusesHeard_42 (by decide) (fun t5 => ?_) (fun t5 => ?_)
          · rw [if_neg t5] at h
            refine lv_iconst (v := 0) hx hb dX10_refusesHeard_49 (by decide) ?_
            subst h
            exact hret _ _ _ _ hw zb0 dX10_refusesHeard_50
          · rw [if_pos t5] at h
            refine lv_iconst (v := 1) hx hb dX10_refusesHeard_45 (by decide) ?_
            refine lv_goto (tgt := 50) hx hb dX10_refusesHeard_46 (by decide) ?_
            subst h
            exact hret _ _ _ _ hw zb1 dX10_refusesHeard_50
theorem hX10_reached : yX10_reached.cls = RX10 ∧ yX10_reached.cls ≠ "java/lang/invoke/MethodHandle" ∧ yX10_reached.cls ≠ "java/lang/invoke/VarHandle" ∧ (parseMethodDescriptor yX10_reached.desc).map (fun d => d.parameters.length) = some 4 := by decide +kernel
set_option maxHeartbeats 4000000 in
set_option maxRecDepth 100000 in
theorem kX10_reached (l : Launch) (D : va_G) (g : zG) (ad : Nat → Nat) (σ : zSt) (x1 : Int32) (x2 : Int32) (x3 : Int32) (x4 : Int32) (o : Int64 × zSt) (h : fX10_reached σ x1 x2 x3 x4 = some o) : zMl l D g 0 ad yX10_reached (Cond.code yX10_reached cX10_reached 6 (some .long) :: zws) (zRm 3) [.ref (ad 0), .int x1, .int x2, .int x3, .int x4] σ o.1 o.2 := by
  refine z_enter_l (by decide) (Nat.le_of_ble_eq_true rfl) ?_
  intro p e s m below meth c A ls Q C hw hl hret
  obtain ⟨hx, hb, hml, hown, hts, hK, hA⟩ := id C
  have hown : s.vm.findClass RX10 = some m.cls := hown
  have C : zCx p c cX10_reached s _ RX10 m 6 A s.heap D g := C
  have hl : lv_has ls 6 [(0, .ref (ad 0)), (1, .int x1), (2, .int x2), (3, .int x3), (4, .int x4)] := hl
  unfold fX10_reached at h
  refine lv_aload_n hx hb dX10_reached_0 rfl (lv_at hl 0 rfl) ?_
  refine lv_iload_n hx hb dX10_reached_1 rfl (lv_at hl 1 rfl) ?_
  refine lv_iload_n hx hb dX10_reached_2 rfl (lv_at hl 2 rfl) ?_
  refine lv_iload_n hx hb dX10_reached_3 rfl (lv_at hl 3 rfl) ?_
  refine lv_iload hx hb dX10_reached_4 (lv_at hl 4 rfl) ?_
  refine z_cVi (As := [.int x1, .int x2, .int x3, .int x4]) (rest := []) ⟨hx, hb, hml, hown, hts⟩ hK hw hA (kX10_refusesHeard l D g ad σ x1 x2 x3 x4 _ rfl) (zcwV 4 hts zgoodIn zw_576 zw_578 zw_12 zw_52 zw_579 rfl rfl hX10_refusesHeard ⟨Nat.le_of_ble_eq_true rfl, Nat.le_of_ble_eq_true rfl⟩) zO0_0 rfl hl.1 rfl (Nat.le_of_ble_eq_true rfl) dX10_reached_6 ⟨Nat.zero_le _, Nat.zero_le _⟩ (fun H locs hw => ?_)
  refine lv_if_eq (tgt := 16) hx hb dX10_reached_9 (by decide) (fun t1 => ?_) (fun t1 => ?_)
  · rw [if_pos t1] at h
    refine lv_aload_n hx hb dX10_reached_16 rfl (lv_at hl 0 rfl) ?_
    refine z_getc hx hb hts zin_X10 hown hK hw zF0_0_5 (hts _ zw_301) dX10_reached_17 ?_
    refine lv_aload_n hx hb dX10_reached_20 rfl (lv_at hl 0 rfl) ?_
    refine z_getc hx hb hts zin_X10 hown hK hw zF0_0_3 (hts _ zw_299) dX10_reached_21 ?_
    refine z_getc hx hb hts zin_X2 hown hK hw zF0_4_0 (hts _ zw_157) dX10_reached_24 ?_
    refine lv_iload_n hx hb dX10_reached_27 rfl (lv_at hl 1 rfl) ?_
    obtain ⟨v2, e3, h⟩ := zbind h
    refine z_iald hx hb hK hw e3 dX10_reached_28 ?_
    refine lv_aload_n hx hb dX10_reached_29 rfl (lv_at hl 0 rfl) ?_
    refine z_getc hx hb hts zin_X10 hown hK hw zF0_0_3 (hts _ zw_299) dX10_reached_30 ?_
    refine z_getc hx hb hts zin_X2 hown hK hw zF0_4_1 (hts _ zw_159) dX10_reached_33 ?_
    refine lv_iload_n hx hb dX10_reached_36 rfl (lv_at hl 1 rfl) ?_
    obtain ⟨v4, e5, h⟩ := zbind h
    refine z_iald hx hb hK hw e5 dX10_reached_37 ?_
    obtain ⟨r6, e7, h⟩ := zbind h
    refine z_cVv (As := [.int v2, .int v4]) (rest := []) ⟨hx, hb, hml, hown, hts⟩ hK hw hA (kX3_through l D g ad σ v2 v4 r6 e7) (zcwV 2 hts zgoodIn zw_548 zw_549 zw_550 zw_59 zw_551 rfl rfl hX3_through ⟨Nat.le_of_ble_eq_true rfl, Nat.le_of_ble_eq_true rfl⟩) zO0_6 rfl hl.1 rfl (Nat.le_of_ble_eq_true rfl) dX10_reached_38 ⟨Nat.zero_le _, Nat.zero_le _⟩ (fun H locs hw => ?_)
    refine lv_aload_n hx hb dX10_reached_41 rfl (lv_at hl 0 rfl) ?_
    refine z_getc hx hb hts zin_X10 hown hK hw zF0_0_5 (hts _ zw_301) dX10_reached_42 ?_
    refine lv_iload_n hx hb dX10_reached_45 rfl (lv_at hl 2 rfl) ?_
    refine lv_iload_n hx hb dX10_reached_46 rfl (lv_at hl 3 rfl) ?_
    obtain ⟨r8, e9, h⟩ := zbind h
    refine z_cVi (As := [.int x2, .int x3]) (rest := []) ⟨hx, hb, hml, hown, hts⟩ hK hw hA (kX3_heardTimes l D g ad r6 x2 x3 r8 e9) (zcwV 2 hts zgoodIn zw_570 zw_559 zw_560 zw_59 zw_561 rfl rfl hX3_heardTimes ⟨Nat.le_of_ble_eq_true rfl, Nat.le_of_ble_eq_true rfl⟩) zO0_6 rfl hl.1 rfl (Nat.le_of_ble_eq_true rfl) dX10_reached_47 ⟨Nat.zero_le _, Nat.zero_le _⟩ (fun H locs hw => ?_)
    refine lv_istore (lv' := [(5, .int r8), (0, .ref (ad 0)), (1, .int x1), (2, .int x2), (3, .int x3), (4, .int x4)]) hx hb dX10_reached_50 hl (by decide) rfl (fun ls hl => ?_)
    refine lv_iload hx hb dX10_reached_52 (lv_at hl 0 rfl) ?_
    refine lv_if_ne (tgt := 63) hx hb dX10_reached_54 (by decide) (fun t10 => ?_) (fun t10 => ?_)
    · rw [if_neg t10] at h
      refine lv_aload_n hx hb dX10_reached_63 rfl (lv_at hl 1 rfl) ?_
      refine z_getc hx hb hts zin_X10 hown hK hw zF0_0_5 (hts _ zw_301) dX10_reached_64 ?_
      refine lv_iload_n hx hb dX10_reached_67 rfl (lv_at hl 3 rfl) ?_
      refine lv_iload_n hx hb dX10_reached_68 rfl (lv_at hl 4 rfl) ?_
      obtain ⟨r11, e12, h⟩ := zbind h
      refine z_cVi (As := [.int x2, .int x3]) (rest := []) ⟨hx, hb, hml, hown, hts⟩ hK hw hA (kX3_reachedTimes l D g ad r6 x2 x3 r11 e12) (zcwV 2 hts zgoodIn zw_580 zw_581 zw_582 zw_59 zw_583 rfl rfl hX3_reachedTimes ⟨Nat.le_of_ble_eq_true rfl, Nat.le_of_ble_eq_true rfl⟩) zO0_6 rfl hl.1 rfl (Nat.le_of_ble_eq_true rfl) dX10_reached_69 ⟨Nat.zero_le _, Nat.zero_le _⟩ (fun H locs hw => ?_)
      refine lv_i2l hx hb dX10_reached_72 rfl ?_
      refine lv_iload hx hb dX10_reached_73 (lv_at hl 0 rfl) ?_
      refine lv_i2l hx hb dX10_reached_75 rfl ?_
      refine lv_iload hx hb dX10_reached_76 (lv_at hl 5 rfl) ?_
      obtain ⟨r13, e14, h⟩ := zbind h
      refine z_cSl (As := [.long r11.toInt64, .long r8.toInt64, .int x4]) (rest := []) ⟨hx, hb, hml, hown, hts⟩ hK hw hA (kX10_inLeastTerms l D g ad r6 r11.toInt64 r8.toInt64 x4 r13 e14) (zcwS 3 hts zgoodIn zw_522 zw_523 zw_52 zw_524 rfl rfl hX10_inLeastTerms ⟨Nat.le_of_ble_eq_true rfl, Nat.le_of_ble_eq_true rfl⟩) rfl hl.1 rfl (Nat.le_of_ble_eq_true rfl) dX10_reached_78 ⟨Nat.zero_le _, Nat.zero_le _⟩ (fun H locs hw => ?_)
      obtain rfl := Option.some.inj h
      exact hret _ _ _ _ hw dX10_reached_81
    · rw [if_pos t10] at h
      refine lv_ldc2 hx hb hown (hts _ zw_513) dX10_reached_57 ?_
      refine lv_goto (tgt := 81) hx hb dX10_reached_60 (by decide) ?_
      obtain rfl := Option.some.inj h
      exact hret _ _ _ _ hw dX10_reached_81
  · rw [if_neg t1] at h
    refine lv_ldc2 hx hb hown (hts _ zw_513) dX10_reached_12 ?_
    obtain rfl := Option.some.inj h
    exact hret _ _ _ _ hw dX10_reached_15
theorem hX10_said : yX10_said.cls = RX10 ∧ yX10_said.cls ≠ "java/lang/invoke/MethodHandle" ∧ yX10_said.cls ≠ "java/lang/invoke/VarHandle" ∧ (parseMethodDescriptor yX10_said.desc).map (fun d => d.parameters.length) = some 4 := by decide +kernel
set_option maxHeartbeats 4000000 in
set_option maxRecDepth 100000 in
theorem kX10_said (l : Launch) (D : va_G) (g : zG) (ad : Nat → Nat) (σ : zSt) (x1 : Int32) (x2 : Int32) (x3 : Int32) (x4 : Int32) (o : Int64 × zSt) (h : fX10_said σ x1 x2 x3 x4 = some o) : zMl l D g 0 ad yX10_said (Cond.code yX10_said cX10_said 6 (some .long) :: zws) (zRm 3) [.ref (ad 0), .int x1, .int x2, .int x3, .int x4] σ o.1 o.2 := by
  refine z_enter_l (by decide) (Nat.le_of_ble_eq_true rfl) ?_
  intro p e s m below meth c A ls Q C hw hl hret
  obtain ⟨hx, hb, hml, hown, hts, hK, hA⟩ := id C
  have hown : s.vm.findClass RX10 = some m.cls := hown
  have C : zCx p c cX10_said s _ RX10 m 6 A s.heap D g := C
  have hl : lv_has ls 6 [(0, .ref (ad 0)), (1, .int x1), (2, .int x2), (3, .int x3), (4, .int x4)] := hl
  unfold fX10_said at h
  refine lv_aload_n hx hb dX10_said_0 rfl (lv_at hl 0 rfl) ?_
  refine lv_iload_n hx hb dX10_said_1 rfl (lv_at hl 1 rfl) ?_
  refine lv_iload_n hx hb dX10_said_2 rfl (lv_at hl 2 rfl) ?_
  refine lv_iload_n hx hb dX10_said_3 rfl (lv_at hl 3 rfl) ?_
  refine lv_iload hx hb dX10_said_4 (lv_at hl 4 rfl) ?_
  refine z_cVi (As := [.int x1, .int x2, .int x3, .int x4]) (rest := []) ⟨hx, hb, hml, hown, hts⟩ hK hw hA (kX10_refusesHeard l D g ad σ x1 x2 x3 x4 _ rfl) (zcwV 4 hts zgoodIn zw_576 zw_578 zw_12 zw_52 zw_579 rfl rfl hX10_refusesHeard ⟨Nat.le_of_ble_eq_true rfl, Nat.le_of_ble_eq_true rfl⟩) zO0_0 rfl hl.1 rfl (Nat.le_of_ble_eq_true rfl) dX10_said_6 ⟨Nat.zero_le _, Nat.zero_le _⟩ (fun H locs hw => ?_)
  refine lv_if_eq (tgt := 16) hx hb dX10_said_9 (by decide) (fun t1 => ?_) (fun t1 => ?_)
  · rw [if_pos t1] at h
    refine lv_aload_n hx hb dX10_said_16 rfl (lv_at hl 0 rfl) ?_
    refine z_getc hx hb hts zin_X10 hown hK hw zF0_0_5 (hts _ zw_301) dX10_said_17 ?_
    refine lv_aload_n hx hb dX10_said_20 rfl (lv_at hl 0 rfl) ?_
    refine z_getc hx hb hts zin_X10 hown hK hw zF0_0_3 (hts _ zw_299) dX10_said_21 ?_
    refine z_getc hx hb hts zin_X2 hown hK hw zF0_4_0 (hts _ zw_157) dX10_said_24 ?_
    refine lv_iload_n hx hb dX10_said_27 rfl (lv_at hl 1 rfl) ?_
    obtain ⟨v2, e3, h⟩ := zbind h
    refine z_iald hx hb hK hw e3 dX10_said_28 ?_
    refine lv_aload_n hx hb dX10_said_29 rfl (lv_at hl 0 rfl) ?_
    refine z_getc hx hb hts zin_X10 hown hK hw zF0_0_3 (hts _ zw_299) dX10_said_30 ?_
    refine z_getc hx hb hts zin_X2 hown hK hw zF0_4_1 (hts _ zw_159) dX10_said_33 ?_
    refine lv_iload_n hx hb dX10_said_36 rfl (lv_at hl 1 rfl) ?_
    obtain ⟨v4, e5, h⟩ := zbind h
    refine z_iald hx hb hK hw e5 dX10_said_37 ?_
    obtain ⟨r6, e7, h⟩ := zbind h
    refine z_cVv (As := [.int v2, .int v4]) (rest := []) ⟨hx, hb, hml, hown, hts⟩ hK hw hA (kX3_through l D g ad σ v2 v4 r6 e7) (zcwV 2 hts zgoodIn zw_548 zw_549 zw_550 zw_59 zw_551 rfl rfl hX3_through ⟨Nat.le_of_ble_eq_true rfl, Nat.le_of_ble_eq_true rfl⟩) zO0_6 rfl hl.1 rfl (Nat.le_of_ble_eq_true rfl) dX10_said_38 ⟨Nat.zero_le _, Nat.zero_le _⟩ (fun H locs hw => ?_)
    refine lv_aload_n hx hb dX10_said_41 rfl (lv_at hl 0 rfl) ?_
    refine z_getc hx hb hts zin_X10 hown hK hw zF0_0_5 (hts _ zw_301) dX10_said_42 ?_
    refine lv_iload_n hx hb dX10_said_45 rfl (lv_at hl 2 rfl) ?_
    refine lv_iload_n hx hb dX10_said_46 rfl (lv_at hl 3 rfl) ?_
    obtain ⟨r8, e9, h⟩ := zbind h
    refine z_cVi (As := [.int x2, .int x3]) (rest := []) ⟨hx, hb, hml, hown, hts⟩ hK hw hA (kX3_heardTimes l D g ad r6 x2 x3 r8 e9) (zcwV 2 hts zgoodIn zw_570 zw_559 zw_560 zw_59 zw_561 rfl rfl hX3_heardTimes ⟨Nat.le_of_ble_eq_true rfl, Nat.le_of_ble_eq_true rfl⟩) zO0_6 rfl hl.1 rfl (Nat.le_of_ble_eq_true rfl) dX10_said_47 ⟨Nat.zero_le _, Nat.zero_le _⟩ (fun H locs hw => ?_)
    refine lv_istore (lv' := [(5, .int r8), (0, .ref (ad 0)), (1, .int x1), (2, .int x2), (3, .int x3), (4, .int x4)]) hx hb dX10_said_50 hl (by decide) rfl (fun ls hl => ?_)
    refine lv_iload hx hb dX10_said_52 (lv_at hl 0 rfl) ?_
    refine lv_if_ne (tgt := 63) hx hb dX10_said_54 (by decide) (fun t10 => ?_) (fun t10 => ?_)
    · rw [if_neg t10] at h
      refine lv_aload_n hx hb dX10_said_63 rfl (lv_at hl 1 rfl) ?_
      refine z_getc hx hb hts zin_X10 hown hK hw zF0_0_5 (hts _ zw_301) dX10_said_64 ?_
      refine lv_iload_n hx hb dX10_said_67 rfl (lv_at hl 3 rfl) ?_
      refine lv_iload_n hx hb dX10_said_68 rfl (lv_at hl 4 rfl) ?_
      obtain ⟨r11, e12, h⟩ := zbind h
      refine z_cVi (As := [.int x2, .int x3]) (rest := []) ⟨hx, hb, hml, hown, hts⟩ hK hw hA (kX3_saidTimes l D g ad r6 x2 x3 r11 e12) (zcwV 2 hts zgoodIn zw_589 zw_590 zw_591 zw_59 zw_592 rfl rfl hX3_saidTimes ⟨Nat.le_of_ble_eq_true rfl, Nat.le_of_ble_eq_true rfl⟩) zO0_6 rfl hl.1 rfl (Nat.le_of_ble_eq_true rfl) dX10_said_69 ⟨Nat.zero_le _, Nat.zero_le _⟩ (fun H locs hw => ?_)
      refine lv_i2l hx hb dX10_said_72 rfl ?_
      refine lv_iload hx hb dX10_said_73 (lv_at hl 0 rfl) ?_
      refine lv_i2l hx hb dX10_said_75 rfl ?_
      refine lv_iload hx hb dX10_said_76 (lv_at hl 5 rfl) ?_
      obtain ⟨r13, e14, h⟩ := zbind h
      refine z_cSl (As := [.long r11.toInt64, .long r8.toInt64, .int x4]) (rest := []) ⟨hx, hb, hml, hown, hts⟩ hK hw hA (kX10_inLeastTerms l D g ad r6 r11.toInt64 r8.toInt64 x4 r13 e14) (zcwS 3 hts zgoodIn zw_522 zw_523 zw_52 zw_524 rfl rfl hX10_inLeastTerms ⟨Nat.le_of_ble_eq_true rfl, Nat.le_of_ble_eq_true rfl⟩) rfl hl.1 rfl (Nat.le_of_ble_eq_true rfl) dX10_said_78 ⟨Nat.zero_le _, Nat.zero_le _⟩ (fun H locs hw => ?_)
      obtain rfl := Option.some.inj h
      exact hret _ _ _ _ hw dX10_said_81
    · rw [if_pos t10] at h
      refine lv_ldc2 hx hb hown (hts _ zw_513) dX10_said_57 ?_
      refine lv_goto (tgt := 81) hx hb dX10_said_60 (by decide) ?_
      obtain rfl := Option.some.inj h
      exact hret _ _ _ _ hw dX10_said_81
  · rw [if_neg t1] at h
    refine lv_ldc2 hx hb hown (hts _ zw_513) dX10_said_12 ?_
    obtain rfl := Option.some.inj h
    exact hret _ _ _ _ hw dX10_said_15
theorem hX10_over : yX10_over.cls = RX10 ∧ yX10_over.cls ≠ "java/lang/invoke/MethodHandle" ∧ yX10_over.cls ≠ "java/lang/invoke/VarHandle" ∧ (parseMethodDescriptor yX10_over.desc).map (fun d => d.parameters.length) = some 3 := by decide +kernel
set_option maxHeartbeats 4000000 in
set_option maxRecDepth 100000 in
theorem kX10_over (l : Launch) (D : va_G) (g : zG) (ad : Nat → Nat) (σ : zSt) (x1 : Int32) (x2 : Int32) (x3 : Int32) (o : Int64 × zSt) (h : fX10_over σ x1 x2 x3 = some o) : zMl l D g 0 ad yX10_over (Cond.code yX10_over cX10_over 4 (some .long) :: zws) (zRm 3) [.ref (ad 0), .int x1, .int x2, .int x3] σ o.1 o.2 := by
  refine z_enter_l (by decide) (Nat.le_of_ble_eq_true rfl) ?_
  intro p e s m below meth c A ls Q C hw hl hret
  obtain ⟨hx, hb, hml, hown, hts, hK, hA⟩ := id C
  have hown : s.vm.findClass RX10 = some m.cls := hown
  have C : zCx p c cX10_over s _ RX10 m 4 A s.heap D g := C
  have hl : lv_has ls 4 [(0, .ref (ad 0)), (1, .int x1), (2, .int x2), (3, .int x3)] := hl
  unfold fX10_over at h
  refine lv_aload_n hx hb dX10_over_0 rfl (lv_at hl 0 rfl) ?_
  refine z_getc hx hb hts zin_X10 hown hK hw zF0_0_3 (hts _ zw_299) dX10_over_1 ?_
  refine lv_iload_n hx hb dX10_over_4 rfl (lv_at hl 1 rfl) ?_
  refine z_cVi (As := [.int x1]) (rest := []) ⟨hx, hb, hml, hown, hts⟩ hK hw hA (kX2_has l D g ad σ x1 _ rfl) (zcwV 1 hts zgoodIn zw_466 zw_467 zw_468 zw_57 zw_469 rfl rfl hX2_has ⟨Nat.le_of_ble_eq_true rfl, Nat.le_of_ble_eq_true rfl⟩) zO0_4 rfl hl.1 rfl (Nat.le_of_ble_eq_true rfl) dX10_over_5 ⟨Nat.zero_le _, Nat.zero_le _⟩ (fun H locs hw => ?_)
  refine lv_if_eq (tgt := 36) hx hb dX10_over_8 (by decide) (fun t1 => ?_) (fun t1 => ?_)
  · rw [if_pos t1] at h
    refine lv_ldc2 hx hb hown (hts _ zw_513) dX10_over_36 ?_
    obtain rfl := Option.some.inj h
    exact hret _ _ _ _ hw dX10_over_39
  · rw [if_neg t1] at h
    refine lv_aload_n hx hb dX10_over_11 rfl (lv_at hl 0 rfl) ?_
    refine lv_iload_n hx hb dX10_over_12 rfl (lv_at hl 2 rfl) ?_
    refine z_cVi (As := [.int x2]) (rest := []) ⟨hx, hb, hml, hown, hts⟩ hK hw hA (kX10_isWord l D g ad σ x2 _ rfl) (zcwV 1 hts zgoodIn zw_412 zw_414 zw_8 zw_52 zw_415 rfl rfl hX10_isWord ⟨Nat.le_of_ble_eq_true rfl, Nat.le_of_ble_eq_true rfl⟩) zO0_0 rfl hl.1 rfl (Nat.le_of_ble_eq_true rfl) dX10_over_13 ⟨Nat.zero_le _, Nat.zero_le _⟩ (fun H locs hw => ?_)
    refine lv_if_eq (tgt := 36) hx hb dX10_over_16 (by decide) (fun t2 => ?_) (fun t2 => ?_)
    · rw [if_pos t2] at h
      refine lv_ldc2 hx hb hown (hts _ zw_513) dX10_over_36 ?_
      obtain rfl := Option.some.inj h
      exact hret _ _ _ _ hw dX10_over_39
    · rw [if_neg t2] at h
      refine lv_iload_n hx hb dX10_over_19 rfl (lv_at hl 3 rfl) ?_
      refine z_cSi (As := [.int x3]) (rest := []) ⟨hx, hb, hml, hown, hts⟩ hK hw hA (kX10_isWhich l D g ad σ x3 _ rfl) (zcwS 1 hts zgoodIn zw_519 zw_520 zw_52 zw_521 rfl rfl hX10_isWhich ⟨Nat.le_of_ble_eq_true rfl, Nat.le_of_ble_eq_true rfl⟩) rfl hl.1 rfl (Nat.le_of_ble_eq_true rfl) dX10_over_20 ⟨Nat.zero_le _, Nat.zero_le _⟩ (fun H locs hw => ?_)
      refine lv_if_eq (tgt := 36) hx hb dX10_over_23 (by decide) (fun t3 => ?_) (fun t3 => ?_)
      · rw [if_pos t3] at h
        refine lv_ldc2 hx hb hown (hts _ zw_513) dX10_over_36 ?_
        obtain rfl := Option.some.inj h
        exact hret _ _ _ _ hw dX10_over_39
      · rw [if_neg t3] at h
        refine lv_aload_n hx hb dX10_over_26 rfl (lv_at hl 0 rfl) ?_
        refine z_getc hx hb hts zin_X10 hown hK hw zF0_0_4 (hts _ zw_300) dX10_over_27 ?_
        refine z_geti hx hb hts zin_X9 hown hK hw zF0_5_1 (hts _ zw_184) dX10_over_30 ?_
        refine lv_if_ne (tgt := 40) hx hb dX10_over_33 (by decide) (fun t4 => ?_) (fun t4 => ?_)
        · rw [if_neg t4] at h
          refine lv_aload_n hx hb dX10_over_40 rfl (lv_at hl 0 rfl) ?_
          refine z_getc hx hb hts zin_X10 hown hK hw zF0_0_5 (hts _ zw_301) dX10_over_41 ?_
          refine lv_aload_n hx hb dX10_over_44 rfl (lv_at hl 0 rfl) ?_
          refine z_getc hx hb hts zin_X10 hown hK hw zF0_0_3 (hts _ zw_299) dX10_over_45 ?_
          refine z_getc hx hb hts zin_X2 hown hK hw zF0_4_0 (hts _ zw_157) dX10_over_48 ?_
          refine lv_iload_n hx hb dX10_over_51 rfl (lv_at hl 1 rfl) ?_
          obtain ⟨v5, e6, h⟩ := zbind h
          refine z_iald hx hb hK hw e6 dX10_over_52 ?_
          refine lv_aload_n hx hb dX10_over_53 rfl (lv_at hl 0 rfl) ?_
          refine z_getc hx hb hts zin_X10 hown hK hw zF0_0_3 (hts _ zw_299) dX10_over_54 ?_
          refine z_getc hx hb hts zin_X2 hown hK hw zF0_4_1 (hts _ zw_159) dX10_over_57 ?_
          refine lv_iload_n hx hb dX10_over_60 rfl (lv_at hl 1 rfl) ?_
          obtain ⟨v7, e8, h⟩ := zbind h
          refine z_iald hx hb hK hw e8 dX10_over_61 ?_
          obtain ⟨r9, e10, h⟩ := zbind h
          refine z_cVv (As := [.int v5, .int v7]) (rest := []) ⟨hx, hb, hml, hown, hts⟩ hK hw hA (kX3_through l D g ad σ v5 v7 r9 e10) (zcwV 2 hts zgoodIn zw_548 zw_549 zw_550 zw_59 zw_551 rfl rfl hX3_through ⟨Nat.le_of_ble_eq_true rfl, Nat.le_of_ble_eq_true rfl⟩) zO0_6 rfl hl.1 rfl (Nat.le_of_ble_eq_true rfl) dX10_over_62 ⟨Nat.zero_le _, Nat.zero_le _⟩ (fun H locs hw => ?_)
          refine lv_aload_n hx hb dX10_over_65 rfl (lv_at hl 0 rfl) ?_
          refine z_getc hx hb hts zin_X10 hown hK hw zF0_0_5 (hts _ zw_301) dX10_over_66 ?_
          refine lv_iload_n hx hb dX10_over_69 rfl (lv_at hl 2 rfl) ?_
          obtain ⟨r11, e12, h⟩ := zbind h
          refine z_cVi (As := [.int x2]) (rest := []) ⟨hx, hb, hml, hown, hts⟩ hK hw hA (kX3_overTimes l D g ad r9 x2 r11 e12) (zcwV 1 hts zgoodIn zw_597 zw_598 zw_599 zw_59 zw_600 rfl rfl hX3_overTimes ⟨Nat.le_of_ble_eq_true rfl, Nat.le_of_ble_eq_true rfl⟩) zO0_6 rfl hl.1 rfl (Nat.le_of_ble_eq_true rfl) dX10_over_70 ⟨Nat.zero_le _, Nat.zero_le _⟩ (fun H locs hw => ?_)
          refine lv_i2l hx hb dX10_over_73 rfl ?_
          refine lv_ldc2 hx hb hown (hts _ zw_571) dX10_over_74 ?_
          refine lv_iload_n hx hb dX10_over_77 rfl (lv_at hl 3 rfl) ?_
          obtain ⟨r13, e14, h⟩ := zbind h
          refine z_cSl (As := [.long r11.toInt64, .long (2985984 : Int64), .int x3]) (rest := []) ⟨hx, hb, hml, hown, hts⟩ hK hw hA (kX10_inLeastTerms l D g ad r9 r11.toInt64 (2985984 : Int64) x3 r13 e14) (zcwS 3 hts zgoodIn zw_522 zw_523 zw_52 zw_524 rfl rfl hX10_inLeastTerms ⟨Nat.le_of_ble_eq_true rfl, Nat.le_of_ble_eq_true rfl⟩) rfl hl.1 rfl (Nat.le_of_ble_eq_true rfl) dX10_over_78 ⟨Nat.zero_le _, Nat.zero_le _⟩ (fun H locs hw => ?_)
          obtain rfl := Option.some.inj h
          exact hret _ _ _ _ hw dX10_over_81
        · rw [if_pos t4] at h
          refine lv_ldc2 hx hb hown (hts _ zw_513) dX10_over_36 ?_
          obtain rfl := Option.some.inj h
          exact hret _ _ _ _ hw dX10_over_39
theorem hX10_ask : yX10_ask.cls = RX10 ∧ yX10_ask.cls ≠ "java/lang/invoke/MethodHandle" ∧ yX10_ask.cls ≠ "java/lang/invoke/VarHandle" ∧ (parseMethodDescriptor yX10_ask.desc).map (fun d => d.parameters.length) = some 2 := by decide +kernel
set_option maxHeartbeats 4000000 in
set_option maxRecDepth 100000 in
theorem kX10_ask (l : Launch) (D : va_G) (g : zG) (ad : Nat → Nat) (σ : zSt) (x1 : Int32) (x2 : Int32) (o : Int32 × zSt) (h : fX10_ask σ x1 x2 = some o) : zMi l D g 0 ad yX10_ask (Cond.code yX10_ask cX10_ask 3 (some .int) :: zws) (zRm 3) [.ref (ad 0), .int x1, .int x2] σ o.1 o.2 := by
  refine z_enter_i (by decide) (Nat.le_of_ble_eq_true rfl) ?_
  intro p e s m below meth c A ls Q C hw hl hret
  obtain ⟨hx, hb, hml, hown, hts, hK, hA⟩ := id C
  have hown : s.vm.findClass RX10 = some m.cls := hown
  have C : zCx p c cX10_ask s _ RX10 m 3 A s.heap D g := C
  have hl : lv_has ls 3 [(0, .ref (ad 0)), (1, .int x1), (2, .int x2)] := hl
  unfold fX10_ask at h
  refine lv_aload_n hx hb dX10_ask_0 rfl (lv_at hl 0 rfl) ?_
  refine z_getc hx hb hts zin_X10 hown hK hw zF0_0_3 (hts _ zw_299) dX10_ask_1 ?_
  refine lv_iload_n hx hb dX10_ask_4 rfl (lv_at hl 1 rfl) ?_
  refine z_cVi (As := [.int x1]) (rest := []) ⟨hx, hb, hml, hown, hts⟩ hK hw hA (kX2_has l D g ad σ x1 _ rfl) (zcwV 1 hts zgoodIn zw_466 zw_467 zw_468 zw_57 zw_469 rfl rfl hX2_has ⟨Nat.le_of_ble_eq_true rfl, Nat.le_of_ble_eq_true rfl⟩) zO0_4 rfl hl.1 rfl (Nat.le_of_ble_eq_true rfl) dX10_ask_5 ⟨Nat.zero_le _, Nat.zero_le _⟩ (fun H locs hw => ?_)
  refine lv_if_ne (tgt := 13) hx hb dX10_ask_8 (by decide) (fun t1 => ?_) (fun t1 => ?_)
  · rw [if_neg t1] at h
    refine lv_iload_n hx hb dX10_ask_13 rfl (lv_at hl 2 rfl) ?_
    refine lv_if_lt (tgt := 30) hx hb dX10_ask_14 (by decide) (fun t2 => ?_) (fun t2 => ?_)
    · rw [if_pos t2] at h
      refine lv_bipush (v := (-2)) hx hb dX10_ask_30 (by decide) ?_
      obtain rfl := Option.some.inj h
      exact hret _ _ _ _ hw rfl dX10_ask_32
    · rw [if_neg t2] at h
      refine lv_iload_n hx hb dX10_ask_17 rfl (lv_at hl 2 rfl) ?_
      refine lv_iconst (v := 1) hx hb dX10_ask_18 (by decide) ?_
      refine lv_aload_n hx hb dX10_ask_19 rfl (lv_at hl 0 rfl) ?_
      refine z_getc hx hb hts zin_X10 hown hK hw zF0_0_2 (hts _ zw_298) dX10_ask_20 ?_
      refine z_geti hx hb hts zin_X8 hown hK hw zF0_3_0 (hts _ zw_139) dX10_ask_23 ?_
      refine lv_ishl hx hb dX10_ask_26 ?_
      refine lv_icmp_lt (tgt := 33) hx hb dX10_ask_27 (by decide) (fun t3 => ?_) (fun t3 => ?_)
      · rw [if_pos t3] at h
        refine lv_aload_n hx hb dX10_ask_33 rfl (lv_at hl 0 rfl) ?_
        refine z_getc hx hb hts zin_X10 hown hK hw zF0_0_4 (hts _ zw_300) dX10_ask_34 ?_
        refine z_geti hx hb hts zin_X9 hown hK hw zF0_5_1 (hts _ zw_184) dX10_ask_37 ?_
        refine lv_if_ne (tgt := 46) hx hb dX10_ask_40 (by decide) (fun t4 => ?_) (fun t4 => ?_)
        · rw [if_neg t4] at h
          refine lv_aload_n hx hb dX10_ask_46 rfl (lv_at hl 0 rfl) ?_
          refine z_getc hx hb hts zin_X10 hown hK hw zF0_0_5 (hts _ zw_301) dX10_ask_47 ?_
          refine lv_aload_n hx hb dX10_ask_50 rfl (lv_at hl 0 rfl) ?_
          refine z_getc hx hb hts zin_X10 hown hK hw zF0_0_3 (hts _ zw_299) dX10_ask_51 ?_
          refine z_getc hx hb hts zin_X2 hown hK hw zF0_4_0 (hts _ zw_157) dX10_ask_54 ?_
          refine lv_iload_n hx hb dX10_ask_57 rfl (lv_at hl 1 rfl) ?_
          obtain ⟨v5, e6, h⟩ := zbind h
          refine z_iald hx hb hK hw e6 dX10_ask_58 ?_
          refine lv_aload_n hx hb dX10_ask_59 rfl (lv_at hl 0 rfl) ?_
          refine z_getc hx hb hts zin_X10 hown hK hw zF0_0_3 (hts _ zw_299) dX10_ask_60 ?_
          refine z_getc hx hb hts zin_X2 hown hK hw zF0_4_1 (hts _ zw_159) dX10_ask_63 ?_
          refine lv_iload_n hx hb dX10_ask_66 rfl (lv_at hl 1 rfl) ?_
          obtain ⟨v7, e8, h⟩ := zbind h
          refine z_iald hx hb hK hw e8 dX10_ask_67 ?_
          obtain ⟨r9, e10, h⟩ := zbind h
          refine z_cVv (As := [.int v5, .int v7]) (rest := []) ⟨hx, hb, hml, hown, hts⟩ hK hw hA (kX3_through l D g ad σ v5 v7 r9 e10) (zcwV 2 hts zgoodIn zw_548 zw_549 zw_550 zw_59 zw_551 rfl rfl hX3_through ⟨Nat.le_of_ble_eq_true rfl, Nat.le_of_ble_eq_true rfl⟩) zO0_6 rfl hl.1 rfl (Nat.le_of_ble_eq_true rfl) dX10_ask_68 ⟨Nat.zero_le _, Nat.zero_le _⟩ (fun H locs hw => ?_)
          refine lv_aload_n hx hb dX10_ask_71 rfl (lv_at hl 0 rfl) ?_
          refine z_getc hx hb hts zin_X10 hown hK hw zF0_0_5 (hts _ zw_301) dX10_ask_72 ?_
          refine lv_iload_n hx hb dX10_ask_75 rfl (lv_at hl 2 rfl) ?_
          obtain ⟨r11, e12, h⟩ := zbind h
          refine z_cVi (As := [.int x2]) (rest := []) ⟨hx, hb, hml, hown, hts⟩ hK hw hA (kX3_bestOver l D g ad r9 x2 r11 e12) (zcwV 1 hts zgoodIn zw_605 zw_606 zw_607 zw_59 zw_608 rfl rfl hX3_bestOver ⟨Nat.le_of_ble_eq_true rfl, Nat.le_of_ble_eq_true rfl⟩) zO0_6 rfl hl.1 rfl (Nat.le_of_ble_eq_true rfl) dX10_ask_76 ⟨Nat.zero_le _, Nat.zero_le _⟩ (fun H locs hw => ?_)
          obtain rfl := Option.some.inj h
          exact hret _ _ _ _ hw rfl dX10_ask_79
        · rw [if_pos t4] at h
          refine lv_bipush (v := (-3)) hx hb dX10_ask_43 (by decide) ?_
          obtain rfl := Option.some.inj h
          exact hret _ _ _ _ hw rfl dX10_ask_45
      · rw [if_neg t3] at h
        refine lv_bipush (v := (-2)) hx hb dX10_ask_30 (by decide) ?_
        obtain rfl := Option.some.inj h
        exact hret _ _ _ _ hw rfl dX10_ask_32
  · rw [if_pos t1] at h
    refine lv_iconst (v := (-1)) hx hb dX10_ask_11 (by decide) ?_
    obtain rfl := Option.some.inj h
    exact hret _ _ _ _ hw rfl dX10_ask_12
theorem hX10_turn : yX10_turn.cls = RX10 ∧ yX10_turn.cls ≠ "java/lang/invoke/MethodHandle" ∧ yX10_turn.cls ≠ "java/lang/invoke/VarHandle" ∧ (parseMethodDescriptor yX10_turn.desc).map (fun d => d.parameters.length) = some 5 := by decide +kernel
set_option maxHeartbeats 4000000 in
set_option maxRecDepth 100000 in
theorem kX10_turn (l : Launch) (D : va_G) (g : zG) (ad : Nat → Nat) (σ : zSt) (x1 : Int32) (x2 : Int32) (x3 : Int32) (x4 : Int32) (x5 : Int32) (o : Int32 × zSt) (h : fX10_turn σ x1 x2 x3 x4 x5 = some o) : zMi l D g 0 ad yX10_turn (Cond.code yX10_turn cX10_turn 7 (some .int) :: zws) (zRm 4) [.ref (ad 0), .int x1, .int x2, .int x3, .int x4, .int x5] σ o.1 o.2 := by
  refine z_enter_i (by decide) (Nat.le_of_ble_eq_true rfl) ?_
  intro p e s m below meth c A ls Q C hw hl hret
  obtain ⟨hx, hb, hml, hown, hts, hK, hA⟩ := id C
  have hown : s.vm.findClass RX10 = some m.cls := hown
  have C : zCx p c cX10_turn s _ RX10 m 7 A s.heap D g := C
  have hl : lv_has ls 7 [(0, .ref (ad 0)), (1, .int x1), (2, .int x2), (3, .int x3), (4, .int x4), (5, .int x5)] := hl
  unfold fX10_turn at h
  refine lv_aload_n hx hb dX10_turn_0 rfl (lv_at hl 0 rfl) ?_
  refine z_getc hx hb hts zin_X10 hown hK hw zF0_0_3 (hts _ zw_299) dX10_turn_1 ?_
  refine lv_iload_n hx hb dX10_turn_4 rfl (lv_at hl 1 rfl) ?_
  refine z_cVi (As := [.int x1]) (rest := []) ⟨hx, hb, hml, hown, hts⟩ hK hw hA (kX2_has l D g ad σ x1 _ rfl) (zcwV 1 hts zgoodIn zw_466 zw_467 zw_468 zw_57 zw_469 rfl rfl hX2_has ⟨Nat.le_of_ble_eq_true rfl, Nat.le_of_ble_eq_true rfl⟩) zO0_4 rfl hl.1 rfl (Nat.le_of_ble_eq_true rfl) dX10_turn_5 ⟨Nat.zero_le _, Nat.zero_le _⟩ (fun H locs hw => ?_)
  refine lv_if_eq (tgt := 27) hx hb dX10_turn_8 (by decide) (fun t1 => ?_) (fun t1 => ?_)
  · rw [if_pos t1] at h
    refine lv_iconst (v := (-1)) hx hb dX10_turn_27 (by decide) ?_
    obtain rfl := Option.some.inj h
    exact hret _ _ _ _ hw rfl dX10_turn_28
  · rw [if_neg t1] at h
    refine lv_aload_n hx hb dX10_turn_11 rfl (lv_at hl 0 rfl) ?_
    refine lv_iload_n hx hb dX10_turn_12 rfl (lv_at hl 2 rfl) ?_
    refine z_cVi (As := [.int x2]) (rest := []) ⟨hx, hb, hml, hown, hts⟩ hK hw hA (kX10_isWord l D g ad σ x2 _ rfl) (zcwV 1 hts zgoodIn zw_412 zw_414 zw_8 zw_52 zw_415 rfl rfl hX10_isWord ⟨Nat.le_of_ble_eq_true rfl, Nat.le_of_ble_eq_true rfl⟩) zO0_0 rfl hl.1 rfl (Nat.le_of_ble_eq_true rfl) dX10_turn_13 ⟨Nat.zero_le _, Nat.zero_le _⟩ (fun H locs hw => ?_)
    refine lv_if_eq (tgt := 27) hx hb dX10_turn_16 (by decide) (fun t2 => ?_) (fun t2 => ?_)
    · rw [if_pos t2] at h
      refine lv_iconst (v := (-1)) hx hb dX10_turn_27 (by decide) ?_
      obtain rfl := Option.some.inj h
      exact hret _ _ _ _ hw rfl dX10_turn_28
    · rw [if_neg t2] at h
      refine lv_aload_n hx hb dX10_turn_19 rfl (lv_at hl 0 rfl) ?_
      refine lv_iload_n hx hb dX10_turn_20 rfl (lv_at hl 3 rfl) ?_
      refine z_cVi (As := [.int x3]) (rest := []) ⟨hx, hb, hml, hown, hts⟩ hK hw hA (kX10_isWord l D g ad σ x3 _ rfl) (zcwV 1 hts zgoodIn zw_412 zw_414 zw_8 zw_52 zw_415 rfl rfl hX10_isWord ⟨Nat.le_of_ble_eq_true rfl, Nat.le_of_ble_eq_true rfl⟩) zO0_0 rfl hl.1 rfl (Nat.le_of_ble_eq_true rfl) dX10_turn_21 ⟨Nat.zero_le _, Nat.zero_le _⟩ (fun H locs hw => ?_)
      refine lv_if_ne (tgt := 29) hx hb dX10_turn_24 (by decide) (fun t3 => ?_) (fun t3 => ?_)
      · rw [if_neg t3] at h
        refine lv_iload hx hb dX10_turn_29 (lv_at hl 4 rfl) ?_
        refine lv_if_lt (tgt := 54) hx hb dX10_turn_31 (by decide) (fun t4 => ?_) (fun t4 => ?_)
        · rw [if_pos t4] at h
          refine lv_bipush (v := (-2)) hx hb dX10_turn_54 (by decide) ?_
          obtain rfl := Option.some.inj h
          exact hret _ _ _ _ hw rfl dX10_turn_56
        · rw [if_neg t4] at h
          refine lv_iload hx hb dX10_turn_34 (lv_at hl 4 rfl) ?_
          refine lv_bipush (v := 9) hx hb dX10_turn_36 (by decide) ?_
          refine lv_icmp_gt (tgt := 54) hx hb dX10_turn_38 (by decide) (fun t5 => ?_) (fun t5 => ?_)
          · rw [if_pos t5] at h
            refine lv_bipush (v := (-2)) hx hb dX10_turn_54 (by decide) ?_
            obtain rfl := Option.some.inj h
            exact hret _ _ _ _ hw rfl dX10_turn_56
          · rw [if_neg t5] at h
            refine lv_iload hx hb dX10_turn_41 (lv_at hl 5 rfl) ?_
            refine lv_iconst (v := 1) hx hb dX10_turn_43 (by decide) ?_
            refine lv_icmp_lt (tgt := 54) hx hb dX10_turn_44 (by decide) (fun t6 => ?_) (fun t6 => ?_)
            · rw [if_pos t6] at h
              refine lv_bipush (v := (-2)) hx hb dX10_turn_54 (by decide) ?_
              obtain rfl := Option.some.inj h
              exact hret _ _ _ _ hw rfl dX10_turn_56
            · rw [if_neg t6] at h
              refine lv_iload hx hb dX10_turn_47 (lv_at hl 5 rfl) ?_
              refine lv_bipush (v := 9) hx hb dX10_turn_49 (by decide) ?_
              refine lv_icmp_le (tgt := 57) hx hb dX10_turn_51 (by decide) (fun t7 => ?_) (fun t7 => ?_)
              · rw [if_pos t7] at h
                refine lv_aload_n hx hb dX10_turn_57 rfl (lv_at hl 0 rfl) ?_
                refine z_getc hx hb hts zin_X10 hown hK hw zF0_0_4 (hts _ zw_300) dX10_turn_58 ?_
                refine z_geti hx hb hts zin_X9 hown hK hw zF0_5_1 (hts _ zw_184) dX10_turn_61 ?_
                refine lv_if_ne (tgt := 70) hx hb dX10_turn_64 (by decide) (fun t8 => ?_) (fun t8 => ?_)
                · rw [if_neg t8] at h
                  refine lv_aload_n hx hb dX10_turn_70 rfl (lv_at hl 0 rfl) ?_
                  refine z_getc hx hb hts zin_X10 hown hK hw zF0_0_7 (hts _ zw_303) dX10_turn_71 ?_
                  refine z_cVi (As := []) (rest := []) ⟨hx, hb, hml, hown, hts⟩ hK hw hA (kX4_isFull l D g ad σ _ rfl) (zcwV 0 hts zgoodIn zw_614 zw_615 zw_616 zw_61 zw_617 rfl rfl hX4_isFull ⟨Nat.le_of_ble_eq_true rfl, Nat.le_of_ble_eq_true rfl⟩) zO0_8 rfl hl.1 rfl (Nat.le_of_ble_eq_true rfl) dX10_turn_74 ⟨Nat.zero_le _, Nat.zero_le _⟩ (fun H locs hw => ?_)
                  refine lv_if_eq (tgt := 83) hx hb dX10_turn_77 (by decide) (fun t9 => ?_) (fun t9 => ?_)
                  · rw [if_pos t9] at h
                    refine lv_aload_n hx hb dX10_turn_83 rfl (lv_at hl 0 rfl) ?_
                    refine z_getc hx hb hts zin_X10 hown hK hw zF0_0_5 (hts _ zw_301) dX10_turn_84 ?_
                    refine lv_aload_n hx hb dX10_turn_87 rfl (lv_at hl 0 rfl) ?_
                    refine z_getc hx hb hts zin_X10 hown hK hw zF0_0_3 (hts _ zw_299) dX10_turn_88 ?_
                    refine z_getc hx hb hts zin_X2 hown hK hw zF0_4_0 (hts _ zw_157) dX10_turn_91 ?_
                    refine lv_iload_n hx hb dX10_turn_94 rfl (lv_at hl 1 rfl) ?_
                    obtain ⟨v10, e11, h⟩ := zbind h
                    refine z_iald hx hb hK hw e11 dX10_turn_95 ?_
                    refine lv_aload_n hx hb dX10_turn_96 rfl (lv_at hl 0 rfl) ?_
                    refine z_getc hx hb hts zin_X10 hown hK hw zF0_0_3 (hts _ zw_299) dX10_turn_97 ?_
                    refine z_getc hx hb hts zin_X2 hown hK hw zF0_4_1 (hts _ zw_159) dX10_turn_100 ?_
                    refine lv_iload_n hx hb dX10_turn_103 rfl (lv_at hl 1 rfl) ?_
                    obtain ⟨v12, e13, h⟩ := zbind h
                    refine z_iald hx hb hK hw e13 dX10_turn_104 ?_
                    obtain ⟨r14, e15, h⟩ := zbind h
                    refine z_cVv (As := [.int v10, .int v12]) (rest := []) ⟨hx, hb, hml, hown, hts⟩ hK hw hA (kX3_through l D g ad σ v10 v12 r14 e15) (zcwV 2 hts zgoodIn zw_548 zw_549 zw_550 zw_59 zw_551 rfl rfl hX3_through ⟨Nat.le_of_ble_eq_true rfl, Nat.le_of_ble_eq_true rfl⟩) zO0_6 rfl hl.1 rfl (Nat.le_of_ble_eq_true rfl) dX10_turn_105 ⟨Nat.zero_le _, Nat.zero_le _⟩ (fun H locs hw => ?_)
                    refine lv_aload_n hx hb dX10_turn_108 rfl (lv_at hl 0 rfl) ?_
                    refine z_getc hx hb hts zin_X10 hown hK hw zF0_0_7 (hts _ zw_303) dX10_turn_109 ?_
                    obtain ⟨r16, e17, h⟩ := zbind h
                    refine z_cVr (As := []) (rest := []) ⟨hx, hb, hml, hown, hts⟩ hK hw hA (kX4_nextLine l D g ad r14 r16 e17) (zcwV 0 hts zgoodIn zw_618 zw_619 zw_620 zw_61 zw_621 rfl rfl hX4_nextLine ⟨Nat.le_of_ble_eq_true rfl, Nat.le_of_ble_eq_true rfl⟩) zO0_8 rfl hl.1 rfl (Nat.le_of_ble_eq_true rfl) dX10_turn_112 ⟨Nat.zero_le _, Nat.zero_le _⟩ (fun H locs hw => ?_)
                    refine lv_astore (lv' := [(6, .ref (ad r16)), (0, .ref (ad 0)), (1, .int x1), (2, .int x2), (3, .int x3), (4, .int x4), (5, .int x5)]) hx hb dX10_turn_115 hl (by decide) rfl (fun ls hl => ?_)
                    refine lv_aload hx hb dX10_turn_117 (lv_at hl 0 rfl) ?_
                    refine lv_iconst (v := 0) hx hb dX10_turn_119 (by decide) ?_
                    refine lv_iload_n hx hb dX10_turn_120 rfl (lv_at hl 2 rfl) ?_
                    obtain ⟨s18, e19, h⟩ := zbind h
                    refine z_iast hx hb hK hw e19 dX10_turn_121 (fun H locs hw => ?_)
                    refine lv_aload hx hb dX10_turn_122 (lv_at hl 0 rfl) ?_
                    refine lv_iconst (v := 1) hx hb dX10_turn_124 (by decide) ?_
                    refine lv_iload_n hx hb dX10_turn_125 rfl (lv_at hl 3 rfl) ?_
                    obtain ⟨s20, e21, h⟩ := zbind h
                    refine z_iast hx hb hK hw e21 dX10_turn_126 (fun H locs hw => ?_)
                    refine lv_aload hx hb dX10_turn_127 (lv_at hl 0 rfl) ?_
                    refine lv_iconst (v := 2) hx hb dX10_turn_129 (by decide) ?_
                    refine lv_iload_n hx hb dX10_turn_130 rfl (lv_at hl 4 rfl) ?_
                    obtain ⟨s22, e23, h⟩ := zbind h
                    refine z_iast hx hb hK hw e23 dX10_turn_131 (fun H locs hw => ?_)
                    refine lv_aload hx hb dX10_turn_132 (lv_at hl 0 rfl) ?_
                    refine lv_iconst (v := 3) hx hb dX10_turn_134 (by decide) ?_
                    refine lv_iload hx hb dX10_turn_135 (lv_at hl 5 rfl) ?_
                    obtain ⟨s24, e25, h⟩ := zbind h
                    refine z_iast hx hb hK hw e25 dX10_turn_137 (fun H locs hw => ?_)
                    refine lv_aload hx hb dX10_turn_138 (lv_at hl 0 rfl) ?_
                    refine lv_iconst (v := 4) hx hb dX10_turn_140 (by decide) ?_
                    refine lv_iload hx hb dX10_turn_141 (lv_at hl 6 rfl) ?_
                    obtain ⟨s26, e27, h⟩ := zbind h
                    refine z_iast hx hb hK hw e27 dX10_turn_143 (fun H locs hw => ?_)
                    refine lv_aload hx hb dX10_turn_144 (lv_at hl 0 rfl) ?_
                    refine lv_iconst (v := 5) hx hb dX10_turn_146 (by decide) ?_
                    refine lv_aload_n hx hb dX10_turn_147 rfl (lv_at hl 1 rfl) ?_
                    refine z_getc hx hb hts zin_X10 hown hK hw zF0_0_5 (hts _ zw_301) dX10_turn_148 ?_
                    refine lv_iload_n hx hb dX10_turn_151 rfl (lv_at hl 3 rfl) ?_
                    refine lv_iload_n hx hb dX10_turn_152 rfl (lv_at hl 4 rfl) ?_
                    obtain ⟨r28, e29, h⟩ := zbind h
                    refine z_cVi (As := [.int x2, .int x3]) (rest := [.int (5 : Int32), .ref (ad r16)]) ⟨hx, hb, hml, hown, hts⟩ hK hw hA (kX3_truth l D g ad s26 x2 x3 r28 e29) (zcwV 2 hts zgoodIn zw_622 zw_623 zw_624 zw_59 zw_625 rfl rfl hX3_truth ⟨Nat.le_of_ble_eq_true rfl, Nat.le_of_ble_eq_true rfl⟩) zO0_6 rfl hl.1 rfl (Nat.le_of_ble_eq_true rfl) dX10_turn_153 ⟨Nat.zero_le _, Nat.zero_le _⟩ (fun H locs hw => ?_)
                    obtain ⟨s30, e31, h⟩ := zbind h
                    refine z_iast hx hb hK hw e31 dX10_turn_156 (fun H locs hw => ?_)
                    refine lv_aload_n hx hb dX10_turn_157 rfl (lv_at hl 1 rfl) ?_
                    refine z_getc hx hb hts zin_X10 hown hK hw zF0_0_7 (hts _ zw_303) dX10_turn_158 ?_
                    refine z_cVi (As := []) (rest := []) ⟨hx, hb, hml, hown, hts⟩ hK hw hA (kX4_keepLine l D g ad s30 _ rfl) (zcwV 0 hts zgoodIn zw_628 zw_629 zw_630 zw_61 zw_631 rfl rfl hX4_keepLine ⟨Nat.le_of_ble_eq_true rfl, Nat.le_of_ble_eq_true rfl⟩) zO0_8 rfl hl.1 rfl (Nat.le_of_ble_eq_true rfl) dX10_turn_161 ⟨Nat.zero_le _, Nat.zero_le _⟩ (fun H locs hw => ?_)
                    obtain rfl := Option.some.inj h
                    exact hret _ _ _ _ hw rfl dX10_turn_164
                  · rw [if_neg t9] at h
                    refine lv_bipush (v := (-4)) hx hb dX10_turn_80 (by decide) ?_
                    obtain rfl := Option.some.inj h
                    exact hret _ _ _ _ hw rfl dX10_turn_82
                · rw [if_pos t8] at h
                  refine lv_bipush (v := (-3)) hx hb dX10_turn_67 (by decide) ?_
                  obtain rfl := Option.some.inj h
                  exact hret _ _ _ _ hw rfl dX10_turn_69
              · rw [if_neg t7] at h
                refine lv_bipush (v := (-2)) hx hb dX10_turn_54 (by decide) ?_
                obtain rfl := Option.some.inj h
                exact hret _ _ _ _ hw rfl dX10_turn_56
      · rw [if_pos t3] at h
        refine lv_iconst (v := (-1)) hx hb dX10_turn_27 (by decide) ?_
        obtain rfl := Option.some.inj h
        exact hret _ _ _ _ hw rfl dX10_turn_28
theorem hX10_ofTurn : yX10_ofTurn.cls = RX10 ∧ yX10_ofTurn.cls ≠ "java/lang/invoke/MethodHandle" ∧ yX10_ofTurn.cls ≠ "java/lang/invoke/VarHandle" ∧ (parseMethodDescriptor yX10_ofTurn.desc).map (fun d => d.parameters.length) = some 2 := by decide +kernel
set_option maxHeartbeats 4000000 in
set_option maxRecDepth 100000 in
theorem kX10_ofTurn (l : Launch) (D : va_G) (g : zG) (ad : Nat → Nat) (σ : zSt) (x1 : Int32) (x2 : Int32) (o : Int32) (h : fX10_ofTurn σ x1 x2 = some o) : zMi l D g 0 ad yX10_ofTurn (Cond.code yX10_ofTurn cX10_ofTurn 3 (some .int) :: zws) (zRm 0) [.ref (ad 0), .int x1, .int x2] σ o σ := by
  refine z_enter_i (by decide) (Nat.le_of_ble_eq_true rfl) ?_
  intro p e s m below meth c A ls Q C hw hl hret
  obtain ⟨hx, hb, hml, hown, hts, hK, hA⟩ := id C
  have hown : s.vm.findClass RX10 = some m.cls := hown
  have C : zCx p c cX10_ofTurn s _ RX10 m 3 A s.heap D g := C
  have hl : lv_has ls 3 [(0, .ref (ad 0)), (1, .int x1), (2, .int x2)] := hl
  unfold fX10_ofTurn at h
  refine lv_iload_n hx hb dX10_ofTurn_0 rfl (lv_at hl 1 rfl) ?_
  refine lv_if_lt (tgt := 15) hx hb dX10_ofTurn_1 (by decide) (fun t1 => ?_) (fun t1 => ?_)
  · rw [if_pos t1] at h
    refine lv_iconst (v := (-1)) hx hb dX10_ofTurn_15 (by decide) ?_
    obtain rfl := Option.some.inj h
    exact hret _ _ _ _ hw rfl dX10_ofTurn_16
  · rw [if_neg t1] at h
    refine lv_iload_n hx hb dX10_ofTurn_4 rfl (lv_at hl 1 rfl) ?_
    refine lv_aload_n hx hb dX10_ofTurn_5 rfl (lv_at hl 0 rfl) ?_
    refine z_getc hx hb hts zin_X10 hown hK hw zF0_0_7 (hts _ zw_303) dX10_ofTurn_6 ?_
    refine z_geti hx hb hts zin_X4 hown hK hw zF0_8_1 (hts _ zw_245) dX10_ofTurn_9 ?_
    refine lv_icmp_lt (tgt := 17) hx hb dX10_ofTurn_12 (by decide) (fun t2 => ?_) (fun t2 => ?_)
    · rw [if_pos t2] at h
      refine lv_iload_n hx hb dX10_ofTurn_17 rfl (lv_at hl 2 rfl) ?_
      refine lv_if_lt (tgt := 27) hx hb dX10_ofTurn_18 (by decide) (fun t3 => ?_) (fun t3 => ?_)
      · rw [if_pos t3] at h
        refine lv_bipush (v := (-2)) hx hb dX10_ofTurn_27 (by decide) ?_
        refine lv_goto (tgt := 43) hx hb dX10_ofTurn_29 (by decide) ?_
        obtain rfl := Option.some.inj h
        exact hret _ _ _ _ hw rfl dX10_ofTurn_43
      · rw [if_neg t3] at h
        refine lv_iload_n hx hb dX10_ofTurn_21 rfl (lv_at hl 2 rfl) ?_
        refine lv_bipush (v := 6) hx hb dX10_ofTurn_22 (by decide) ?_
        refine lv_icmp_lt (tgt := 32) hx hb dX10_ofTurn_24 (by decide) (fun t4 => ?_) (fun t4 => ?_)
        · rw [if_pos t4] at h
          refine lv_aload_n hx hb dX10_ofTurn_32 rfl (lv_at hl 0 rfl) ?_
          refine z_getc hx hb hts zin_X10 hown hK hw zF0_0_7 (hts _ zw_303) dX10_ofTurn_33 ?_
          refine z_getc hx hb hts zin_X4 hown hK hw zF0_8_0 (hts _ zw_243) dX10_ofTurn_36 ?_
          refine lv_iload_n hx hb dX10_ofTurn_39 rfl (lv_at hl 1 rfl) ?_
          obtain ⟨q5, e6, h⟩ := zbind h
          refine z_aald hx hb hK hw e6 dX10_ofTurn_40 ?_
          refine lv_iload_n hx hb dX10_ofTurn_41 rfl (lv_at hl 2 rfl) ?_
          obtain ⟨v7, e8, h⟩ := zbind h
          refine z_iald hx hb hK hw e8 dX10_ofTurn_42 ?_
          obtain rfl := Option.some.inj h
          exact hret _ _ _ _ hw rfl dX10_ofTurn_43
        · rw [if_neg t4] at h
          refine lv_bipush (v := (-2)) hx hb dX10_ofTurn_27 (by decide) ?_
          refine lv_goto (tgt := 43) hx hb dX10_ofTurn_29 (by decide) ?_
          obtain rfl := Option.some.inj h
          exact hret _ _ _ _ hw rfl dX10_ofTurn_43
    · rw [if_neg t2] at h
      refine lv_iconst (v := (-1)) hx hb dX10_ofTurn_15 (by decide) ?_
      obtain rfl := Option.some.inj h
      exact hret _ _ _ _ hw rfl dX10_ofTurn_16
theorem hX10_back : yX10_back.cls = RX10 ∧ yX10_back.cls ≠ "java/lang/invoke/MethodHandle" ∧ yX10_back.cls ≠ "java/lang/invoke/VarHandle" ∧ (parseMethodDescriptor yX10_back.desc).map (fun d => d.parameters.length) = some 1 := by decide +kernel
set_option maxHeartbeats 4000000 in
set_option maxRecDepth 100000 in
theorem kX10_back (l : Launch) (D : va_G) (g : zG) (ad : Nat → Nat) (σ : zSt) (x1 : Int32) (o : Int32 × zSt) (h : fX10_back σ x1 = o) : zMi l D g 0 ad yX10_back (Cond.code yX10_back cX10_back 2 (some .int) :: zws) (zRm 0) [.ref (ad 0), .int x1] σ o.1 o.2 := by
  refine z_enter_i (by decide) (Nat.le_of_ble_eq_true rfl) ?_
  intro p e s m below meth c A ls Q C hw hl hret
  obtain ⟨hx, hb, hml, hown, hts, hK, hA⟩ := id C
  have hown : s.vm.findClass RX10 = some m.cls := hown
  have C : zCx p c cX10_back s _ RX10 m 2 A s.heap D g := C
  have hl : lv_has ls 2 [(0, .ref (ad 0)), (1, .int x1)] := hl
  unfold fX10_back at h
  refine lv_iload_n hx hb dX10_back_0 rfl (lv_at hl 1 rfl) ?_
  refine lv_if_lt (tgt := 15) hx hb dX10_back_1 (by decide) (fun t1 => ?_) (fun t1 => ?_)
  · rw [if_pos t1] at h
    refine lv_bipush (v := (-2)) hx hb dX10_back_15 (by decide) ?_
    subst h
    exact hret _ _ _ _ hw rfl dX10_back_17
  · rw [if_neg t1] at h
    refine lv_iload_n hx hb dX10_back_4 rfl (lv_at hl 1 rfl) ?_
    refine lv_aload_n hx hb dX10_back_5 rfl (lv_at hl 0 rfl) ?_
    refine z_getc hx hb hts zin_X10 hown hK hw zF0_0_7 (hts _ zw_303) dX10_back_6 ?_
    refine z_geti hx hb hts zin_X4 hown hK hw zF0_8_1 (hts _ zw_245) dX10_back_9 ?_
    refine lv_icmp_le (tgt := 18) hx hb dX10_back_12 (by decide) (fun t2 => ?_) (fun t2 => ?_)
    · rw [if_pos t2] at h
      refine lv_aload_n hx hb dX10_back_18 rfl (lv_at hl 0 rfl) ?_
      refine z_getc hx hb hts zin_X10 hown hK hw zF0_0_7 (hts _ zw_303) dX10_back_19 ?_
      refine lv_dup hx hb dX10_back_22 rfl ?_
      refine z_geti hx hb hts zin_X4 hown hK hw zF0_8_1 (hts _ zw_245) dX10_back_23 ?_
      refine lv_iload_n hx hb dX10_back_26 rfl (lv_at hl 1 rfl) ?_
      refine lv_isub hx hb dX10_back_27 ?_
      refine z_puti hx hb hts zin_X4 tyX4_ok nmX4 hown hK hw zF0_8_1 (hts _ zw_245) zY0_8_1 dX10_back_28 (fun H locs hw => ?_)
      refine lv_aload_n hx hb dX10_back_31 rfl (lv_at hl 0 rfl) ?_
      refine z_getc hx hb hts zin_X10 hown hK hw zF0_0_7 (hts _ zw_303) dX10_back_32 ?_
      refine z_geti hx hb hts zin_X4 hown hK hw zF0_8_1 (hts _ zw_245) dX10_back_35 ?_
      subst h
      exact hret _ _ _ _ hw rfl dX10_back_38
    · rw [if_neg t2] at h
      refine lv_bipush (v := (-2)) hx hb dX10_back_15 (by decide) ?_
      subst h
      exact hret _ _ _ _ hw rfl dX10_back_17
theorem hX10_wrong : yX10_wrong.cls = RX10 ∧ yX10_wrong.cls ≠ "java/lang/invoke/MethodHandle" ∧ yX10_wrong.cls ≠ "java/lang/invoke/VarHandle" ∧ (parseMethodDescriptor yX10_wrong.desc).map (fun d => d.parameters.length) = some 2 := by decide +kernel
set_option maxHeartbeats 4000000 in
set_option maxRecDepth 100000 in
theorem kX10_wrong (l : Launch) (D : va_G) (g : zG) (ad : Nat → Nat) (σ : zSt) (x1 : Int32) (x2 : Int32) (o : Int64 × zSt) (h : fX10_wrong σ x1 x2 = some o) : zMl l D g 0 ad yX10_wrong (Cond.code yX10_wrong cX10_wrong 3 (some .long) :: zws) (zRm 2) [.ref (ad 0), .int x1, .int x2] σ o.1 o.2 := by
  refine z_enter_l (by decide) (Nat.le_of_ble_eq_true rfl) ?_
  intro p e s m below meth c A ls Q C hw hl hret
  obtain ⟨hx, hb, hml, hown, hts, hK, hA⟩ := id C
  have hown : s.vm.findClass RX10 = some m.cls := hown
  have C : zCx p c cX10_wrong s _ RX10 m 3 A s.heap D g := C
  have hl : lv_has ls 3 [(0, .ref (ad 0)), (1, .int x1), (2, .int x2)] := hl
  unfold fX10_wrong at h
  refine lv_iload_n hx hb dX10_wrong_0 rfl (lv_at hl 1 rfl) ?_
  refine lv_if_lt (tgt := 17) hx hb dX10_wrong_1 (by decide) (fun t1 => ?_) (fun t1 => ?_)
  · rw [if_pos t1] at h
    refine lv_ldc2 hx hb hown (hts _ zw_513) dX10_wrong_17 ?_
    obtain rfl := Option.some.inj h
    exact hret _ _ _ _ hw dX10_wrong_20
  · rw [if_neg t1] at h
    refine lv_iload_n hx hb dX10_wrong_4 rfl (lv_at hl 1 rfl) ?_
    refine lv_bipush (v := 7) hx hb dX10_wrong_5 (by decide) ?_
    refine lv_icmp_gt (tgt := 17) hx hb dX10_wrong_7 (by decide) (fun t2 => ?_) (fun t2 => ?_)
    · rw [if_pos t2] at h
      refine lv_ldc2 hx hb hown (hts _ zw_513) dX10_wrong_17 ?_
      obtain rfl := Option.some.inj h
      exact hret _ _ _ _ hw dX10_wrong_20
    · rw [if_neg t2] at h
      refine lv_iload_n hx hb dX10_wrong_10 rfl (lv_at hl 2 rfl) ?_
      refine z_cSi (As := [.int x2]) (rest := []) ⟨hx, hb, hml, hown, hts⟩ hK hw hA (kX10_isWhich l D g ad σ x2 _ rfl) (zcwS 1 hts zgoodIn zw_519 zw_520 zw_52 zw_521 rfl rfl hX10_isWhich ⟨Nat.le_of_ble_eq_true rfl, Nat.le_of_ble_eq_true rfl⟩) rfl hl.1 rfl (Nat.le_of_ble_eq_true rfl) dX10_wrong_11 ⟨Nat.zero_le _, Nat.zero_le _⟩ (fun H locs hw => ?_)
      refine lv_if_ne (tgt := 21) hx hb dX10_wrong_14 (by decide) (fun t3 => ?_) (fun t3 => ?_)
      · rw [if_neg t3] at h
        refine lv_aload_n hx hb dX10_wrong_21 rfl (lv_at hl 0 rfl) ?_
        refine z_getc hx hb hts zin_X10 hown hK hw zF0_0_7 (hts _ zw_303) dX10_wrong_22 ?_
        obtain ⟨r4, e5, h⟩ := zbind h
        refine z_cVv (As := []) (rest := []) ⟨hx, hb, hml, hown, hts⟩ hK hw hA (kX4_weighYes l D g ad σ r4 e5) (zcwV 0 hts zgoodIn zw_644 zw_645 zw_646 zw_61 zw_647 rfl rfl hX4_weighYes ⟨Nat.le_of_ble_eq_true rfl, Nat.le_of_ble_eq_true rfl⟩) zO0_8 rfl hl.1 rfl (Nat.le_of_ble_eq_true rfl) dX10_wrong_25 ⟨Nat.zero_le _, Nat.zero_le _⟩ (fun H locs hw => ?_)
        refine lv_aload_n hx hb dX10_wrong_28 rfl (lv_at hl 0 rfl) ?_
        refine z_getc hx hb hts zin_X10 hown hK hw zF0_0_7 (hts _ zw_303) dX10_wrong_29 ?_
        refine lv_iload_n hx hb dX10_wrong_32 rfl (lv_at hl 1 rfl) ?_
        obtain ⟨r6, e7, h⟩ := zbind h
        refine z_cVl (As := [.int x1]) (rest := []) ⟨hx, hb, hml, hown, hts⟩ hK hw hA (kX4_fewerThan l D g ad r4 x1 r6 e7) (zcwV 1 hts zgoodIn zw_654 zw_655 zw_656 zw_61 zw_657 rfl rfl hX4_fewerThan ⟨Nat.le_of_ble_eq_true rfl, Nat.le_of_ble_eq_true rfl⟩) zO0_8 rfl hl.1 rfl (Nat.le_of_ble_eq_true rfl) dX10_wrong_33 ⟨Nat.zero_le _, Nat.zero_le _⟩ (fun H locs hw => ?_)
        refine lv_aload_n hx hb dX10_wrong_36 rfl (lv_at hl 0 rfl) ?_
        refine z_getc hx hb hts zin_X10 hown hK hw zF0_0_7 (hts _ zw_303) dX10_wrong_37 ?_
        refine z_getl hx hb hts zin_X4 hown hK hw zF0_8_2 (hts _ zw_247) dX10_wrong_40 ?_
        refine lv_iload_n hx hb dX10_wrong_43 rfl (lv_at hl 2 rfl) ?_
        obtain ⟨r8, e9, h⟩ := zbind h
        refine z_cSl (As := [.long r6, .long (zJ r4 8 2), .int x2]) (rest := []) ⟨hx, hb, hml, hown, hts⟩ hK hw hA (kX10_inLeastTerms l D g ad r4 r6 (zJ r4 8 2) x2 r8 e9) (zcwS 3 hts zgoodIn zw_522 zw_523 zw_52 zw_524 rfl rfl hX10_inLeastTerms ⟨Nat.le_of_ble_eq_true rfl, Nat.le_of_ble_eq_true rfl⟩) rfl hl.1 rfl (Nat.le_of_ble_eq_true rfl) dX10_wrong_44 ⟨Nat.zero_le _, Nat.zero_le _⟩ (fun H locs hw => ?_)
        obtain rfl := Option.some.inj h
        exact hret _ _ _ _ hw dX10_wrong_47
      · rw [if_pos t3] at h
        refine lv_ldc2 hx hb hown (hts _ zw_513) dX10_wrong_17 ?_
        obtain rfl := Option.some.inj h
        exact hret _ _ _ _ hw dX10_wrong_20
theorem hX10_again : yX10_again.cls = RX10 ∧ yX10_again.cls ≠ "java/lang/invoke/MethodHandle" ∧ yX10_again.cls ≠ "java/lang/invoke/VarHandle" ∧ (parseMethodDescriptor yX10_again.desc).map (fun d => d.parameters.length) = some 1 := by decide +kernel
set_option maxHeartbeats 4000000 in
set_option maxRecDepth 100000 in
theorem kX10_again (l : Launch) (D : va_G) (g : zG) (ad : Nat → Nat) (σ : zSt) (x1 : Int32) (o : Int32) (h : fX10_again σ x1 = some o) : zMi l D g 0 ad yX10_again (Cond.code yX10_again cX10_again 2 (some .int) :: zws) (zRm 3) [.ref (ad 0), .int x1] σ o σ := by
  refine z_enter_i (by decide) (Nat.le_of_ble_eq_true rfl) ?_
  intro p e s m below meth c A ls Q C hw hl hret
  obtain ⟨hx, hb, hml, hown, hts, hK, hA⟩ := id C
  have hown : s.vm.findClass RX10 = some m.cls := hown
  have C : zCx p c cX10_again s _ RX10 m 2 A s.heap D g := C
  have hl : lv_has ls 2 [(0, .ref (ad 0)), (1, .int x1)] := hl
  unfold fX10_again at h
  refine lv_iload_n hx hb dX10_again_0 rfl (lv_at hl 1 rfl) ?_
  refine lv_if_lt (tgt := 10) hx hb dX10_again_1 (by decide) (fun t1 => ?_) (fun t1 => ?_)
  · rw [if_pos t1] at h
    refine lv_bipush (v := (-2)) hx hb dX10_again_10 (by decide) ?_
    refine lv_goto (tgt := 23) hx hb dX10_again_12 (by decide) ?_
    obtain rfl := Option.some.inj h
    exact hret _ _ _ _ hw rfl dX10_again_23
  · rw [if_neg t1] at h
    refine lv_iload_n hx hb dX10_again_4 rfl (lv_at hl 1 rfl) ?_
    refine lv_bipush (v := 60) hx hb dX10_again_5 (by decide) ?_
    refine lv_icmp_le (tgt := 15) hx hb dX10_again_7 (by decide) (fun t2 => ?_) (fun t2 => ?_)
    · rw [if_pos t2] at h
      refine lv_aload_n hx hb dX10_again_15 rfl (lv_at hl 0 rfl) ?_
      refine z_getc hx hb hts zin_X10 hown hK hw zF0_0_7 (hts _ zw_303) dX10_again_16 ?_
      refine lv_iload_n hx hb dX10_again_19 rfl (lv_at hl 1 rfl) ?_
      obtain ⟨r3, e4, h⟩ := zbind h
      refine z_cVi (As := [.int x1]) (rest := []) ⟨hx, hb, hml, hown, hts⟩ hK hw hA (kX4_bestSet l D g ad σ x1 r3 e4) (zcwV 1 hts zgoodIn zw_662 zw_663 zw_664 zw_61 zw_665 rfl rfl hX4_bestSet ⟨Nat.le_of_ble_eq_true rfl, Nat.le_of_ble_eq_true rfl⟩) zO0_8 rfl hl.1 rfl (Nat.le_of_ble_eq_true rfl) dX10_again_20 ⟨Nat.zero_le _, Nat.zero_le _⟩ (fun H locs hw => ?_)
      obtain rfl := Option.some.inj h
      exact hret _ _ _ _ hw rfl dX10_again_23
    · rw [if_neg t2] at h
      refine lv_bipush (v := (-2)) hx hb dX10_again_10 (by decide) ?_
      refine lv_goto (tgt := 23) hx hb dX10_again_12 (by decide) ?_
      obtain rfl := Option.some.inj h
      exact hret _ _ _ _ hw rfl dX10_again_23
theorem hX10_shifts : yX10_shifts.cls = RX10 ∧ yX10_shifts.cls ≠ "java/lang/invoke/MethodHandle" ∧ yX10_shifts.cls ≠ "java/lang/invoke/VarHandle" ∧ (parseMethodDescriptor yX10_shifts.desc).map (fun d => d.parameters.length) = some 5 := by decide +kernel
set_option maxHeartbeats 4000000 in
set_option maxRecDepth 100000 in
theorem kX10_shifts (l : Launch) (D : va_G) (g : zG) (ad : Nat → Nat) (σ : zSt) (x1 : Int32) (x2 : Int32) (x3 : Int32) (x4 : Int32) (x5 : Int32) (o : Int32 × zSt) (h : fX10_shifts σ x1 x2 x3 x4 x5 = some o) : zMi l D g 0 ad yX10_shifts (Cond.code yX10_shifts cX10_shifts 6 (some .int) :: zws) (zRm 4) [.ref (ad 0), .int x1, .int x2, .int x3, .int x4, .int x5] σ o.1 o.2 := by
  refine z_enter_i (by decide) (Nat.le_of_ble_eq_true rfl) ?_
  intro p e s m below meth c A ls Q C hw hl hret
  obtain ⟨hx, hb, hml, hown, hts, hK, hA⟩ := id C
  have hown : s.vm.findClass RX10 = some m.cls := hown
  have C : zCx p c cX10_shifts s _ RX10 m 6 A s.heap D g := C
  have hl : lv_has ls 6 [(0, .ref (ad 0)), (1, .int x1), (2, .int x2), (3, .int x3), (4, .int x4), (5, .int x5)] := hl
  unfold fX10_shifts at h
  refine lv_aload_n hx hb dX10_shifts_0 rfl (lv_at hl 0 rfl) ?_
  refine z_getc hx hb hts zin_X10 hown hK hw zF0_0_3 (hts _ zw_299) dX10_shifts_1 ?_
  refine lv_iload_n hx hb dX10_shifts_4 rfl (lv_at hl 1 rfl) ?_
  refine z_cVi (As := [.int x1]) (rest := []) ⟨hx, hb, hml, hown, hts⟩ hK hw hA (kX2_has l D g ad σ x1 _ rfl) (zcwV 1 hts zgoodIn zw_466 zw_467 zw_468 zw_57 zw_469 rfl rfl hX2_has ⟨Nat.le_of_ble_eq_true rfl, Nat.le_of_ble_eq_true rfl⟩) zO0_4 rfl hl.1 rfl (Nat.le_of_ble_eq_true rfl) dX10_shifts_5 ⟨Nat.zero_le _, Nat.zero_le _⟩ (fun H locs hw => ?_)
  refine lv_if_eq (tgt := 27) hx hb dX10_shifts_8 (by decide) (fun t1 => ?_) (fun t1 => ?_)
  · rw [if_pos t1] at h
    refine lv_iconst (v := (-1)) hx hb dX10_shifts_27 (by decide) ?_
    obtain rfl := Option.some.inj h
    exact hret _ _ _ _ hw rfl dX10_shifts_28
  · rw [if_neg t1] at h
    refine lv_aload_n hx hb dX10_shifts_11 rfl (lv_at hl 0 rfl) ?_
    refine z_getc hx hb hts zin_X10 hown hK hw zF0_0_3 (hts _ zw_299) dX10_shifts_12 ?_
    refine lv_iload_n hx hb dX10_shifts_15 rfl (lv_at hl 2 rfl) ?_
    refine z_cVi (As := [.int x2]) (rest := []) ⟨hx, hb, hml, hown, hts⟩ hK hw hA (kX2_has l D g ad σ x2 _ rfl) (zcwV 1 hts zgoodIn zw_466 zw_467 zw_468 zw_57 zw_469 rfl rfl hX2_has ⟨Nat.le_of_ble_eq_true rfl, Nat.le_of_ble_eq_true rfl⟩) zO0_4 rfl hl.1 rfl (Nat.le_of_ble_eq_true rfl) dX10_shifts_16 ⟨Nat.zero_le _, Nat.zero_le _⟩ (fun H locs hw => ?_)
    refine lv_if_eq (tgt := 27) hx hb dX10_shifts_19 (by decide) (fun t2 => ?_) (fun t2 => ?_)
    · rw [if_pos t2] at h
      refine lv_iconst (v := (-1)) hx hb dX10_shifts_27 (by decide) ?_
      obtain rfl := Option.some.inj h
      exact hret _ _ _ _ hw rfl dX10_shifts_28
    · rw [if_neg t2] at h
      refine lv_iload_n hx hb dX10_shifts_22 rfl (lv_at hl 1 rfl) ?_
      refine lv_iload_n hx hb dX10_shifts_23 rfl (lv_at hl 2 rfl) ?_
      refine lv_icmp_ne (tgt := 29) hx hb dX10_shifts_24 (by decide) (fun t3 => ?_) (fun t3 => ?_)
      · rw [if_neg t3] at h
        refine lv_iload_n hx hb dX10_shifts_29 rfl (lv_at hl 3 rfl) ?_
        refine lv_iconst (v := 1) hx hb dX10_shifts_30 (by decide) ?_
        refine lv_icmp_lt (tgt := 52) hx hb dX10_shifts_31 (by decide) (fun t4 => ?_) (fun t4 => ?_)
        · rw [if_pos t4] at h
          refine lv_bipush (v := (-2)) hx hb dX10_shifts_52 (by decide) ?_
          obtain rfl := Option.some.inj h
          exact hret _ _ _ _ hw rfl dX10_shifts_54
        · rw [if_neg t4] at h
          refine lv_iload_n hx hb dX10_shifts_34 rfl (lv_at hl 3 rfl) ?_
          refine lv_bipush (v := 40) hx hb dX10_shifts_35 (by decide) ?_
          refine lv_icmp_gt (tgt := 52) hx hb dX10_shifts_37 (by decide) (fun t5 => ?_) (fun t5 => ?_)
          · rw [if_pos t5] at h
            refine lv_bipush (v := (-2)) hx hb dX10_shifts_52 (by decide) ?_
            obtain rfl := Option.some.inj h
            exact hret _ _ _ _ hw rfl dX10_shifts_54
          · rw [if_neg t5] at h
            refine lv_iload hx hb dX10_shifts_40 (lv_at hl 4 rfl) ?_
            refine lv_if_lt (tgt := 52) hx hb dX10_shifts_42 (by decide) (fun t6 => ?_) (fun t6 => ?_)
            · rw [if_pos t6] at h
              refine lv_bipush (v := (-2)) hx hb dX10_shifts_52 (by decide) ?_
              obtain rfl := Option.some.inj h
              exact hret _ _ _ _ hw rfl dX10_shifts_54
            · rw [if_neg t6] at h
              refine lv_iload hx hb dX10_shifts_45 (lv_at hl 4 rfl) ?_
              refine lv_bipush (v := 9) hx hb dX10_shifts_47 (by decide) ?_
              refine lv_icmp_le (tgt := 55) hx hb dX10_shifts_49 (by decide) (fun t7 => ?_) (fun t7 => ?_)
              · rw [if_pos t7] at h
                refine lv_iload hx hb dX10_shifts_55 (lv_at hl 5 rfl) ?_
                refine lv_iconst (v := (-1)) hx hb dX10_shifts_57 (by decide) ?_
                refine lv_icmp_lt (tgt := 67) hx hb dX10_shifts_58 (by decide) (fun t8 => ?_) (fun t8 => ?_)
                · rw [if_pos t8] at h
                  refine lv_iconst (v := (-1)) hx hb dX10_shifts_67 (by decide) ?_
                  obtain rfl := Option.some.inj h
                  exact hret _ _ _ _ hw rfl dX10_shifts_68
                · rw [if_neg t8] at h
                  refine lv_iload hx hb dX10_shifts_61 (lv_at hl 5 rfl) ?_
                  refine lv_iload_n hx hb dX10_shifts_63 rfl (lv_at hl 3 rfl) ?_
                  refine lv_icmp_lt (tgt := 69) hx hb dX10_shifts_64 (by decide) (fun t9 => ?_) (fun t9 => ?_)
                  · rw [if_pos t9] at h
                    refine lv_aload_n hx hb dX10_shifts_69 rfl (lv_at hl 0 rfl) ?_
                    refine z_getc hx hb hts zin_X10 hown hK hw zF0_0_8 (hts _ zw_304) dX10_shifts_70 ?_
                    refine lv_aload_n hx hb dX10_shifts_73 rfl (lv_at hl 0 rfl) ?_
                    refine z_getc hx hb hts zin_X10 hown hK hw zF0_0_3 (hts _ zw_299) dX10_shifts_74 ?_
                    refine z_getc hx hb hts zin_X2 hown hK hw zF0_4_1 (hts _ zw_159) dX10_shifts_77 ?_
                    refine lv_iload_n hx hb dX10_shifts_80 rfl (lv_at hl 1 rfl) ?_
                    obtain ⟨v10, e11, h⟩ := zbind h
                    refine z_iald hx hb hK hw e11 dX10_shifts_81 ?_
                    refine lv_aload_n hx hb dX10_shifts_82 rfl (lv_at hl 0 rfl) ?_
                    refine z_getc hx hb hts zin_X10 hown hK hw zF0_0_3 (hts _ zw_299) dX10_shifts_83 ?_
                    refine z_getc hx hb hts zin_X2 hown hK hw zF0_4_1 (hts _ zw_159) dX10_shifts_86 ?_
                    refine lv_iload_n hx hb dX10_shifts_89 rfl (lv_at hl 2 rfl) ?_
                    obtain ⟨v12, e13, h⟩ := zbind h
                    refine z_iald hx hb hK hw e13 dX10_shifts_90 ?_
                    refine lv_iload_n hx hb dX10_shifts_91 rfl (lv_at hl 3 rfl) ?_
                    refine lv_iload hx hb dX10_shifts_92 (lv_at hl 4 rfl) ?_
                    obtain ⟨r14, e15, h⟩ := zbind h
                    refine z_cVv (As := [.int v10, .int v12, .int x3, .int x4]) (rest := []) ⟨hx, hb, hml, hown, hts⟩ hK hw hA (kX7_plan l D g ad σ v10 v12 x3 x4 r14 e15) (zcwV 4 hts zgoodIn zw_682 zw_683 zw_684 zw_62 zw_685 rfl rfl hX7_plan ⟨Nat.le_of_ble_eq_true rfl, Nat.le_of_ble_eq_true rfl⟩) zO0_9 rfl hl.1 rfl (Nat.le_of_ble_eq_true rfl) dX10_shifts_94 ⟨Nat.zero_le _, Nat.zero_le _⟩ (fun H locs hw => ?_)
                    refine lv_iload hx hb dX10_shifts_97 (lv_at hl 5 rfl) ?_
                    refine lv_iconst (v := (-1)) hx hb dX10_shifts_99 (by decide) ?_
                    refine lv_icmp_ne (tgt := 113) hx hb dX10_shifts_100 (by decide) (fun t16 => ?_) (fun t16 => ?_)
                    · rw [if_neg t16] at h
                      refine lv_aload_n hx hb dX10_shifts_113 rfl (lv_at hl 0 rfl) ?_
                      refine z_getc hx hb hts zin_X10 hown hK hw zF0_0_8 (hts _ zw_304) dX10_shifts_114 ?_
                      refine lv_iload hx hb dX10_shifts_117 (lv_at hl 5 rfl) ?_
                      refine lv_iload_n hx hb dX10_shifts_119 rfl (lv_at hl 3 rfl) ?_
                      refine z_cVi (As := [.int x5, .int x3]) (rest := []) ⟨hx, hb, hml, hown, hts⟩ hK hw hA (kX7_worker l D g ad r14 x5 x3 _ rfl) (zcwV 2 hts zgoodIn zw_723 zw_724 zw_725 zw_62 zw_726 rfl rfl hX7_worker ⟨Nat.le_of_ble_eq_true rfl, Nat.le_of_ble_eq_true rfl⟩) zO0_9 rfl hl.1 rfl (Nat.le_of_ble_eq_true rfl) dX10_shifts_120 ⟨Nat.zero_le _, Nat.zero_le _⟩ (fun H locs hw => ?_)
                      obtain rfl := Option.some.inj h
                      exact hret _ _ _ _ hw rfl dX10_shifts_123
                    · rw [if_pos t16] at h
                      refine lv_aload_n hx hb dX10_shifts_103 rfl (lv_at hl 0 rfl) ?_
                      refine z_getc hx hb hts zin_X10 hown hK hw zF0_0_8 (hts _ zw_304) dX10_shifts_104 ?_
                      refine z_cVi (As := []) (rest := []) ⟨hx, hb, hml, hown, hts⟩ hK hw hA (kX7_cost l D g ad r14 _ rfl) (zcwV 0 hts zgoodIn zw_719 zw_720 zw_721 zw_62 zw_722 rfl rfl hX7_cost ⟨Nat.le_of_ble_eq_true rfl, Nat.le_of_ble_eq_true rfl⟩) zO0_9 rfl hl.1 rfl (Nat.le_of_ble_eq_true rfl) dX10_shifts_107 ⟨Nat.zero_le _, Nat.zero_le _⟩ (fun H locs hw => ?_)
                      refine lv_goto (tgt := 123) hx hb dX10_shifts_110 (by decide) ?_
                      obtain rfl := Option.some.inj h
                      exact hret _ _ _ _ hw rfl dX10_shifts_123
                  · rw [if_neg t9] at h
                    refine lv_iconst (v := (-1)) hx hb dX10_shifts_67 (by decide) ?_
                    obtain rfl := Option.some.inj h
                    exact hret _ _ _ _ hw rfl dX10_shifts_68
              · rw [if_neg t7] at h
                refine lv_bipush (v := (-2)) hx hb dX10_shifts_52 (by decide) ?_
                obtain rfl := Option.some.inj h
                exact hret _ _ _ _ hw rfl dX10_shifts_54
      · rw [if_pos t3] at h
        refine lv_iconst (v := (-1)) hx hb dX10_shifts_27 (by decide) ?_
        obtain rfl := Option.some.inj h
        exact hret _ _ _ _ hw rfl dX10_shifts_28
theorem hX10_booth : yX10_booth.cls = RX10 ∧ yX10_booth.cls ≠ "java/lang/invoke/MethodHandle" ∧ yX10_booth.cls ≠ "java/lang/invoke/VarHandle" ∧ (parseMethodDescriptor yX10_booth.desc).map (fun d => d.parameters.length) = some 5 := by decide +kernel
set_option maxHeartbeats 4000000 in
set_option maxRecDepth 100000 in
theorem kX10_booth (l : Launch) (D : va_G) (g : zG) (ad : Nat → Nat) (σ : zSt) (x1 : Int32) (x2 : Int32) (x3 : Int32) (x4 : Int32) (x5 : Int32) (o : Int32 × zSt) (h : fX10_booth σ x1 x2 x3 x4 x5 = some o) : zMi l D g 0 ad yX10_booth (Cond.code yX10_booth cX10_booth 8 (some .int) :: zws) (zRm 2) [.ref (ad 0), .int x1, .int x2, .int x3, .int x4, .int x5] σ o.1 o.2 := by
  refine z_enter_i (by decide) (Nat.le_of_ble_eq_true rfl) ?_
  intro p e s m below meth c A ls Q C hw hl hret
  obtain ⟨hx, hb, hml, hown, hts, hK, hA⟩ := id C
  have hown : s.vm.findClass RX10 = some m.cls := hown
  have C : zCx p c cX10_booth s _ RX10 m 8 A s.heap D g := C
  have hl : lv_has ls 8 [(0, .ref (ad 0)), (1, .int x1), (2, .int x2), (3, .int x3), (4, .int x4), (5, .int x5)] := hl
  unfold fX10_booth at h
  refine lv_aload_n hx hb dX10_booth_0 rfl (lv_at hl 0 rfl) ?_
  refine lv_iload_n hx hb dX10_booth_1 rfl (lv_at hl 1 rfl) ?_
  refine lv_iload_n hx hb dX10_booth_2 rfl (lv_at hl 2 rfl) ?_
  refine z_cVi (As := [.int x1, .int x2]) (rest := []) ⟨hx, hb, hml, hown, hts⟩ hK hw hA (kX10_refuseRow l D g ad σ x1 x2 _ rfl) (zcwV 2 hts zgoodIn zw_334 zw_336 zw_0 zw_52 zw_337 rfl rfl hX10_refuseRow ⟨Nat.le_of_ble_eq_true rfl, Nat.le_of_ble_eq_true rfl⟩) zO0_0 rfl hl.1 rfl (Nat.le_of_ble_eq_true rfl) dX10_booth_3 ⟨Nat.zero_le _, Nat.zero_le _⟩ (fun H locs hw => ?_)
  refine lv_istore (lv' := [(6, .int ((fX10_refuseRow σ x1 x2).1)), (0, .ref (ad 0)), (1, .int x1), (2, .int x2), (3, .int x3), (4, .int x4), (5, .int x5)]) hx hb dX10_booth_6 hl (by decide) rfl (fun ls hl => ?_)
  refine lv_iload hx hb dX10_booth_8 (lv_at hl 0 rfl) ?_
  refine lv_if_eq (tgt := 16) hx hb dX10_booth_10 (by decide) (fun t1 => ?_) (fun t1 => ?_)
  · rw [if_pos t1] at h
    refine lv_iload hx hb dX10_booth_16 (lv_at hl 6 rfl) ?_
    refine lv_if_lt (tgt := 27) hx hb dX10_booth_18 (by decide) (fun t2 => ?_) (fun t2 => ?_)
    · rw [if_pos t2] at h
      refine lv_bipush (v := (-2)) hx hb dX10_booth_27 (by decide) ?_
      obtain rfl := Option.some.inj h
      exact hret _ _ _ _ hw rfl dX10_booth_29
    · rw [if_neg t2] at h
      refine lv_iload hx hb dX10_booth_21 (lv_at hl 6 rfl) ?_
      refine lv_iconst (v := 2) hx hb dX10_booth_23 (by decide) ?_
      refine lv_icmp_le (tgt := 30) hx hb dX10_booth_24 (by decide) (fun t3 => ?_) (fun t3 => ?_)
      · rw [if_pos t3] at h
        refine lv_aload_n hx hb dX10_booth_30 rfl (lv_at hl 1 rfl) ?_
        refine lv_aload_n hx hb dX10_booth_31 rfl (lv_at hl 1 rfl) ?_
        refine z_getc hx hb hts zin_X10 hown hK hw zF0_0_0 (hts _ zw_296) dX10_booth_32 ?_
        refine lv_iload_n hx hb dX10_booth_35 rfl (lv_at hl 2 rfl) ?_
        refine lv_iload_n hx hb dX10_booth_36 rfl (lv_at hl 3 rfl) ?_
        refine lv_iload_n hx hb dX10_booth_37 rfl (lv_at hl 4 rfl) ?_
        refine lv_iload hx hb dX10_booth_38 (lv_at hl 5 rfl) ?_
        obtain ⟨r4, e5, h⟩ := zbind h
        refine z_cVi (As := [.int x1, .int x2, .int x3, .int x4]) (rest := [.ref (ad 0)]) ⟨hx, hb, hml, hown, hts⟩ hK hw hA (kX6_faultOfCells l D g ad ((fX10_refuseRow σ x1 x2).2) x1 x2 x3 x4 r4 e5) (zcwV 4 hts zgoodIn zw_345 zw_346 zw_347 zw_53 zw_348 rfl rfl hX6_faultOfCells ⟨Nat.le_of_ble_eq_true rfl, Nat.le_of_ble_eq_true rfl⟩) zO0_1 rfl hl.1 rfl (Nat.le_of_ble_eq_true rfl) dX10_booth_40 ⟨Nat.zero_le _, Nat.zero_le _⟩ (fun H locs hw => ?_)
        refine z_cVi (As := [.int r4]) (rest := []) ⟨hx, hb, hml, hown, hts⟩ hK hw hA (kX10_comeTo l D g ad ((fX10_refuseRow σ x1 x2).2) r4 _ rfl) (zcwV 1 hts zgoodIn zw_357 zw_359 zw_2 zw_52 zw_360 rfl rfl hX10_comeTo ⟨Nat.le_of_ble_eq_true rfl, Nat.le_of_ble_eq_true rfl⟩) zO0_0 rfl hl.1 rfl (Nat.le_of_ble_eq_true rfl) dX10_booth_43 ⟨Nat.zero_le _, Nat.zero_le _⟩ (fun H locs hw => ?_)
        refine lv_istore (lv' := [(7, .int ((fX10_comeTo ((fX10_refuseRow σ x1 x2).2) r4).1)), (6, .int ((fX10_refuseRow σ x1 x2).1)), (0, .ref (ad 0)), (1, .int x1), (2, .int x2), (3, .int x3), (4, .int x4), (5, .int x5)]) hx hb dX10_booth_46 hl (by decide) rfl (fun ls hl => ?_)
        refine lv_iload hx hb dX10_booth_48 (lv_at hl 0 rfl) ?_
        refine lv_if_eq (tgt := 56) hx hb dX10_booth_50 (by decide) (fun t6 => ?_) (fun t6 => ?_)
        · rw [if_pos t6] at h
          refine lv_iload hx hb dX10_booth_56 (lv_at hl 6 rfl) ?_
          refine lv_iconst (v := 1) hx hb dX10_booth_58 (by decide) ?_
          refine lv_icmp_lt (tgt := 87) hx hb dX10_booth_59 (by decide) (fun t7 => ?_) (fun t7 => ?_)
          · rw [if_pos t7] at h
            refine lv_bipush (v := (-2)) hx hb dX10_booth_87 (by decide) ?_
            obtain rfl := Option.some.inj h
            exact hret _ _ _ _ hw rfl dX10_booth_89
          · rw [if_neg t7] at h
            refine lv_iload hx hb dX10_booth_62 (lv_at hl 6 rfl) ?_
            refine lv_bipush (v := 9) hx hb dX10_booth_64 (by decide) ?_
            refine lv_icmp_gt (tgt := 87) hx hb dX10_booth_66 (by decide) (fun t8 => ?_) (fun t8 => ?_)
            · rw [if_pos t8] at h
              refine lv_bipush (v := (-2)) hx hb dX10_booth_87 (by decide) ?_
              obtain rfl := Option.some.inj h
              exact hret _ _ _ _ hw rfl dX10_booth_89
            · rw [if_neg t8] at h
              refine lv_aload_n hx hb dX10_booth_69 rfl (lv_at hl 2 rfl) ?_
              refine z_getc hx hb hts zin_X10 hown hK hw zF0_0_0 (hts _ zw_296) dX10_booth_70 ?_
              refine z_getc hx hb hts zin_X6 hown hK hw zF0_1_0 (hts _ zw_87) dX10_booth_73 ?_
              refine lv_iload_n hx hb dX10_booth_76 rfl (lv_at hl 3 rfl) ?_
              obtain ⟨q9, e10, h⟩ := zbind h
              refine z_aald hx hb hK hw e10 dX10_booth_77 ?_
              refine lv_iload_n hx hb dX10_booth_78 rfl (lv_at hl 5 rfl) ?_
              refine lv_iload hx hb dX10_booth_79 (lv_at hl 6 rfl) ?_
              obtain ⟨r11, e12, h⟩ := zbind h
              refine z_cSi (As := [.ref (ad q9), .int x3, .int x4]) (rest := []) ⟨hx, hb, hml, hown, hts⟩ hK hw hA (kX0_isEachOnce l D g ad ((fX10_comeTo ((fX10_refuseRow σ x1 x2).2) r4).2) q9 x3 x4 r11 e12) (zcwS 3 hts zgoodIn zw_731 zw_732 zw_63 zw_733 rfl rfl hX0_isEachOnce ⟨Nat.le_of_ble_eq_true rfl, Nat.le_of_ble_eq_true rfl⟩) rfl hl.1 rfl (Nat.le_of_ble_eq_true rfl) dX10_booth_81 ⟨Nat.zero_le _, Nat.zero_le _⟩ (fun H locs hw => ?_)
              refine lv_if_ne (tgt := 90) hx hb dX10_booth_84 (by decide) (fun t13 => ?_) (fun t13 => ?_)
              · rw [if_neg t13] at h
                refine lv_aload_n hx hb dX10_booth_90 rfl (lv_at hl 2 rfl) ?_
                refine z_getc hx hb hts zin_X10 hown hK hw zF0_0_9 (hts _ zw_305) dX10_booth_91 ?_
                refine lv_aload_n hx hb dX10_booth_94 rfl (lv_at hl 2 rfl) ?_
                refine z_getc hx hb hts zin_X10 hown hK hw zF0_0_0 (hts _ zw_296) dX10_booth_95 ?_
                refine z_getc hx hb hts zin_X6 hown hK hw zF0_1_0 (hts _ zw_87) dX10_booth_98 ?_
                refine lv_iload_n hx hb dX10_booth_101 rfl (lv_at hl 3 rfl) ?_
                obtain ⟨q14, e15, h⟩ := zbind h
                refine z_aald hx hb hK hw e15 dX10_booth_102 ?_
                refine lv_iload_n hx hb dX10_booth_103 rfl (lv_at hl 5 rfl) ?_
                refine lv_iload hx hb dX10_booth_104 (lv_at hl 6 rfl) ?_
                obtain ⟨r16, e17, h⟩ := zbind h
                refine z_cVv (As := [.ref (ad q14), .int x3, .int x4]) (rest := []) ⟨hx, hb, hml, hown, hts⟩ hK hw hA (kX0_work l D g ad ((fX10_comeTo ((fX10_refuseRow σ x1 x2).2) r4).2) q14 x3 x4 r16 e17) (zcwV 3 hts zgoodIn zw_734 zw_735 zw_736 zw_63 zw_737 rfl rfl hX0_work ⟨Nat.le_of_ble_eq_true rfl, Nat.le_of_ble_eq_true rfl⟩) zO0_10 rfl hl.1 rfl (Nat.le_of_ble_eq_true rfl) dX10_booth_106 ⟨Nat.zero_le _, Nat.zero_le _⟩ (fun H locs hw => ?_)
                refine lv_iload hx hb dX10_booth_109 (lv_at hl 7 rfl) ?_
                refine lv_if_ne (tgt := 124) hx hb dX10_booth_111 (by decide) (fun t18 => ?_) (fun t18 => ?_)
                · rw [if_neg t18] at h
                  refine lv_iload hx hb dX10_booth_124 (lv_at hl 7 rfl) ?_
                  refine lv_iconst (v := 1) hx hb dX10_booth_126 (by decide) ?_
                  refine lv_icmp_ne (tgt := 140) hx hb dX10_booth_127 (by decide) (fun t19 => ?_) (fun t19 => ?_)
                  · rw [if_neg t19] at h
                    refine lv_aload_n hx hb dX10_booth_140 rfl (lv_at hl 2 rfl) ?_
                    refine z_getc hx hb hts zin_X10 hown hK hw zF0_0_9 (hts _ zw_305) dX10_booth_141 ?_
                    refine z_geti hx hb hts zin_X0 hown hK hw zF0_10_2 (hts _ zw_288) dX10_booth_144 ?_
                    obtain rfl := Option.some.inj h
                    exact hret _ _ _ _ hw rfl dX10_booth_147
                  · rw [if_pos t19] at h
                    refine lv_aload_n hx hb dX10_booth_130 rfl (lv_at hl 2 rfl) ?_
                    refine z_getc hx hb hts zin_X10 hown hK hw zF0_0_9 (hts _ zw_305) dX10_booth_131 ?_
                    refine z_geti hx hb hts zin_X0 hown hK hw zF0_10_1 (hts _ zw_286) dX10_booth_134 ?_
                    refine lv_goto (tgt := 147) hx hb dX10_booth_137 (by decide) ?_
                    obtain rfl := Option.some.inj h
                    exact hret _ _ _ _ hw rfl dX10_booth_147
                · rw [if_pos t18] at h
                  refine lv_aload_n hx hb dX10_booth_114 rfl (lv_at hl 2 rfl) ?_
                  refine z_getc hx hb hts zin_X10 hown hK hw zF0_0_9 (hts _ zw_305) dX10_booth_115 ?_
                  refine z_geti hx hb hts zin_X0 hown hK hw zF0_10_0 (hts _ zw_284) dX10_booth_118 ?_
                  refine lv_goto (tgt := 147) hx hb dX10_booth_121 (by decide) ?_
                  obtain rfl := Option.some.inj h
                  exact hret _ _ _ _ hw rfl dX10_booth_147
              · rw [if_pos t13] at h
                refine lv_bipush (v := (-2)) hx hb dX10_booth_87 (by decide) ?_
                obtain rfl := Option.some.inj h
                exact hret _ _ _ _ hw rfl dX10_booth_89
        · rw [if_neg t6] at h
          refine lv_iload hx hb dX10_booth_53 (lv_at hl 0 rfl) ?_
          obtain rfl := Option.some.inj h
          exact hret _ _ _ _ hw rfl dX10_booth_55
      · rw [if_neg t3] at h
        refine lv_bipush (v := (-2)) hx hb dX10_booth_27 (by decide) ?_
        obtain rfl := Option.some.inj h
        exact hret _ _ _ _ hw rfl dX10_booth_29
  · rw [if_neg t1] at h
    refine lv_iload hx hb dX10_booth_13 (lv_at hl 0 rfl) ?_
    obtain rfl := Option.some.inj h
    exact hret _ _ _ _ hw rfl dX10_booth_15
theorem hX10_sheet : yX10_sheet.cls = RX10 ∧ yX10_sheet.cls ≠ "java/lang/invoke/MethodHandle" ∧ yX10_sheet.cls ≠ "java/lang/invoke/VarHandle" ∧ (parseMethodDescriptor yX10_sheet.desc).map (fun d => d.parameters.length) = some 3 := by decide +kernel
set_option maxHeartbeats 4000000 in
set_option maxRecDepth 100000 in
theorem kX10_sheet (l : Launch) (D : va_G) (g : zG) (ad : Nat → Nat) (σ : zSt) (x1 : Int32) (x2 : Int32) (x3 : Int32) (o : Int32 × zSt) (h : fX10_sheet σ x1 x2 x3 = some o) : zMi l D g 0 ad yX10_sheet (Cond.code yX10_sheet cX10_sheet 5 (some .int) :: zws) (zRm 2) [.ref (ad 0), .int x1, .int x2, .int x3] σ o.1 o.2 := by
  refine z_enter_i (by decide) (Nat.le_of_ble_eq_true rfl) ?_
  intro p e s m below meth c A ls Q C hw hl hret
  obtain ⟨hx, hb, hml, hown, hts, hK, hA⟩ := id C
  have hown : s.vm.findClass RX10 = some m.cls := hown
  have C : zCx p c cX10_sheet s _ RX10 m 5 A s.heap D g := C
  have hl : lv_has ls 5 [(0, .ref (ad 0)), (1, .int x1), (2, .int x2), (3, .int x3)] := hl
  unfold fX10_sheet at h
  refine lv_aload_n hx hb dX10_sheet_0 rfl (lv_at hl 0 rfl) ?_
  refine lv_iload_n hx hb dX10_sheet_1 rfl (lv_at hl 1 rfl) ?_
  refine lv_iload_n hx hb dX10_sheet_2 rfl (lv_at hl 2 rfl) ?_
  refine z_cVi (As := [.int x1, .int x2]) (rest := []) ⟨hx, hb, hml, hown, hts⟩ hK hw hA (kX10_refuseRow l D g ad σ x1 x2 _ rfl) (zcwV 2 hts zgoodIn zw_334 zw_336 zw_0 zw_52 zw_337 rfl rfl hX10_refuseRow ⟨Nat.le_of_ble_eq_true rfl, Nat.le_of_ble_eq_true rfl⟩) zO0_0 rfl hl.1 rfl (Nat.le_of_ble_eq_true rfl) dX10_sheet_3 ⟨Nat.zero_le _, Nat.zero_le _⟩ (fun H locs hw => ?_)
  refine lv_istore (lv' := [(4, .int ((fX10_refuseRow σ x1 x2).1)), (0, .ref (ad 0)), (1, .int x1), (2, .int x2), (3, .int x3)]) hx hb dX10_sheet_6 hl (by decide) rfl (fun ls hl => ?_)
  refine lv_iload hx hb dX10_sheet_8 (lv_at hl 0 rfl) ?_
  refine lv_if_eq (tgt := 16) hx hb dX10_sheet_10 (by decide) (fun t1 => ?_) (fun t1 => ?_)
  · rw [if_pos t1] at h
    refine lv_iload_n hx hb dX10_sheet_16 rfl (lv_at hl 4 rfl) ?_
    refine lv_bipush (v := 120) hx hb dX10_sheet_17 (by decide) ?_
    refine lv_icmp_le (tgt := 25) hx hb dX10_sheet_19 (by decide) (fun t2 => ?_) (fun t2 => ?_)
    · rw [if_pos t2] at h
      refine lv_iload_n hx hb dX10_sheet_25 rfl (lv_at hl 4 rfl) ?_
      refine lv_if_ge (tgt := 35) hx hb dX10_sheet_26 (by decide) (fun t3 => ?_) (fun t3 => ?_)
      · rw [if_pos t3] at h
        refine lv_aload_n hx hb dX10_sheet_35 rfl (lv_at hl 1 rfl) ?_
        refine z_getc hx hb hts zin_X10 hown hK hw zF0_0_0 (hts _ zw_296) dX10_sheet_36 ?_
        refine lv_iload_n hx hb dX10_sheet_39 rfl (lv_at hl 2 rfl) ?_
        refine lv_iload_n hx hb dX10_sheet_40 rfl (lv_at hl 3 rfl) ?_
        refine lv_iload_n hx hb dX10_sheet_41 rfl (lv_at hl 4 rfl) ?_
        obtain ⟨r4, e5, h⟩ := zbind h
        refine z_cVv (As := [.int x1, .int x2, .int x3]) (rest := []) ⟨hx, hb, hml, hown, hts⟩ hK hw hA (kX6_renew l D g ad ((fX10_refuseRow σ x1 x2).2) x1 x2 x3 r4 e5) (zcwV 3 hts zgoodIn zw_744 zw_745 zw_746 zw_53 zw_747 rfl rfl hX6_renew ⟨Nat.le_of_ble_eq_true rfl, Nat.le_of_ble_eq_true rfl⟩) zO0_1 rfl hl.1 rfl (Nat.le_of_ble_eq_true rfl) dX10_sheet_42 ⟨Nat.zero_le _, Nat.zero_le _⟩ (fun H locs hw => ?_)
        refine lv_iconst (v := 1) hx hb dX10_sheet_45 (by decide) ?_
        obtain rfl := Option.some.inj h
        exact hret _ _ _ _ hw rfl dX10_sheet_46
      · rw [if_neg t3] at h
        refine lv_aload_n hx hb dX10_sheet_29 rfl (lv_at hl 1 rfl) ?_
        refine lv_iconst (v := 4) hx hb dX10_sheet_30 (by decide) ?_
        refine z_cVi (As := [.int (4 : Int32)]) (rest := []) ⟨hx, hb, hml, hown, hts⟩ hK hw hA (kX10_comeTo l D g ad ((fX10_refuseRow σ x1 x2).2) (4 : Int32) _ rfl) (zcwV 1 hts zgoodIn zw_357 zw_359 zw_2 zw_52 zw_360 rfl rfl hX10_comeTo ⟨Nat.le_of_ble_eq_true rfl, Nat.le_of_ble_eq_true rfl⟩) zO0_0 rfl hl.1 rfl (Nat.le_of_ble_eq_true rfl) dX10_sheet_31 ⟨Nat.zero_le _, Nat.zero_le _⟩ (fun H locs hw => ?_)
        obtain rfl := Option.some.inj h
        exact hret _ _ _ _ hw rfl dX10_sheet_34
    · rw [if_neg t2] at h
      refine lv_bipush (v := (-2)) hx hb dX10_sheet_22 (by decide) ?_
      obtain rfl := Option.some.inj h
      exact hret _ _ _ _ hw rfl dX10_sheet_24
  · rw [if_neg t1] at h
    refine lv_iload hx hb dX10_sheet_13 (lv_at hl 0 rfl) ?_
    obtain rfl := Option.some.inj h
    exact hret _ _ _ _ hw rfl dX10_sheet_15
theorem hX10_lose : yX10_lose.cls = RX10 ∧ yX10_lose.cls ≠ "java/lang/invoke/MethodHandle" ∧ yX10_lose.cls ≠ "java/lang/invoke/VarHandle" ∧ (parseMethodDescriptor yX10_lose.desc).map (fun d => d.parameters.length) = some 1 := by decide +kernel
set_option maxHeartbeats 4000000 in
set_option maxRecDepth 100000 in
theorem kX10_lose (l : Launch) (D : va_G) (g : zG) (ad : Nat → Nat) (σ : zSt) (x1 : Int32) (o : Int32 × zSt) (h : fX10_lose σ x1 = some o) : zMi l D g 0 ad yX10_lose (Cond.code yX10_lose cX10_lose 2 (some .int) :: zws) (zRm 1) [.ref (ad 0), .int x1] σ o.1 o.2 := by
  refine z_enter_i (by decide) (Nat.le_of_ble_eq_true rfl) ?_
  intro p e s m below meth c A ls Q C hw hl hret
  obtain ⟨hx, hb, hml, hown, hts, hK, hA⟩ := id C
  have hown : s.vm.findClass RX10 = some m.cls := hown
  have C : zCx p c cX10_lose s _ RX10 m 2 A s.heap D g := C
  have hl : lv_has ls 2 [(0, .ref (ad 0)), (1, .int x1)] := hl
  unfold fX10_lose at h
  refine lv_aload_n hx hb dX10_lose_0 rfl (lv_at hl 0 rfl) ?_
  refine z_getc hx hb hts zin_X10 hown hK hw zF0_0_0 (hts _ zw_296) dX10_lose_1 ?_
  refine lv_iload_n hx hb dX10_lose_4 rfl (lv_at hl 1 rfl) ?_
  refine z_cVi (As := [.int x1]) (rest := []) ⟨hx, hb, hml, hown, hts⟩ hK hw hA (kX6_has l D g ad σ x1 _ rfl) (zcwV 1 hts zgoodIn zw_338 zw_339 zw_340 zw_53 zw_341 rfl rfl hX6_has ⟨Nat.le_of_ble_eq_true rfl, Nat.le_of_ble_eq_true rfl⟩) zO0_1 rfl hl.1 rfl (Nat.le_of_ble_eq_true rfl) dX10_lose_5 ⟨Nat.zero_le _, Nat.zero_le _⟩ (fun H locs hw => ?_)
  refine lv_if_ne (tgt := 13) hx hb dX10_lose_8 (by decide) (fun t1 => ?_) (fun t1 => ?_)
  · rw [if_neg t1] at h
    refine lv_aload_n hx hb dX10_lose_13 rfl (lv_at hl 0 rfl) ?_
    refine z_getc hx hb hts zin_X10 hown hK hw zF0_0_0 (hts _ zw_296) dX10_lose_14 ?_
    refine lv_iload_n hx hb dX10_lose_17 rfl (lv_at hl 1 rfl) ?_
    obtain ⟨r2, e3, h⟩ := zbind h
    refine z_cVi (As := [.int x1]) (rest := []) ⟨hx, hb, hml, hown, hts⟩ hK hw hA (kX6_drop l D g ad σ x1 r2 e3) (zcwV 1 hts zgoodIn zw_752 zw_753 zw_754 zw_53 zw_755 rfl rfl hX6_drop ⟨Nat.le_of_ble_eq_true rfl, Nat.le_of_ble_eq_true rfl⟩) zO0_1 rfl hl.1 rfl (Nat.le_of_ble_eq_true rfl) dX10_lose_18 ⟨Nat.zero_le _, Nat.zero_le _⟩ (fun H locs hw => ?_)
    refine lv_if_eq (tgt := 28) hx hb dX10_lose_21 (by decide) (fun t4 => ?_) (fun t4 => ?_)
    · rw [if_pos t4] at h
      refine lv_iconst (v := 0) hx hb dX10_lose_28 (by decide) ?_
      obtain rfl := Option.some.inj h
      exact hret _ _ _ _ hw rfl dX10_lose_29
    · rw [if_neg t4] at h
      refine lv_iconst (v := 1) hx hb dX10_lose_24 (by decide) ?_
      refine lv_goto (tgt := 29) hx hb dX10_lose_25 (by decide) ?_
      obtain rfl := Option.some.inj h
      exact hret _ _ _ _ hw rfl dX10_lose_29
  · rw [if_pos t1] at h
    refine lv_iconst (v := (-1)) hx hb dX10_lose_11 (by decide) ?_
    obtain rfl := Option.some.inj h
    exact hret _ _ _ _ hw rfl dX10_lose_12
theorem hX10_put : yX10_put.cls = RX10 ∧ yX10_put.cls ≠ "java/lang/invoke/MethodHandle" ∧ yX10_put.cls ≠ "java/lang/invoke/VarHandle" ∧ (parseMethodDescriptor yX10_put.desc).map (fun d => d.parameters.length) = some 3 := by decide +kernel
set_option maxHeartbeats 4000000 in
set_option maxRecDepth 100000 in
theorem kX10_put (l : Launch) (D : va_G) (g : zG) (ad : Nat → Nat) (σ : zSt) (x1 : Int32) (x2 : Int32) (x3 : Int32) (o : Int32 × zSt) (h : fX10_put σ x1 x2 x3 = some o) : zMi l D g 0 ad yX10_put (Cond.code yX10_put cX10_put 5 (some .int) :: zws) (zRm 1) [.ref (ad 0), .int x1, .int x2, .int x3] σ o.1 o.2 := by
  refine z_enter_i (by decide) (Nat.le_of_ble_eq_true rfl) ?_
  intro p e s m below meth c A ls Q C hw hl hret
  obtain ⟨hx, hb, hml, hown, hts, hK, hA⟩ := id C
  have hown : s.vm.findClass RX10 = some m.cls := hown
  have C : zCx p c cX10_put s _ RX10 m 5 A s.heap D g := C
  have hl : lv_has ls 5 [(0, .ref (ad 0)), (1, .int x1), (2, .int x2), (3, .int x3)] := hl
  unfold fX10_put at h
  refine lv_aload_n hx hb dX10_put_0 rfl (lv_at hl 0 rfl) ?_
  refine lv_iconst (v := 0) hx hb dX10_put_1 (by decide) ?_
  refine z_puti hx hb hts zin_X10 tyX10_ok nmX10 hown hK hw zF0_0_10 (hts _ zw_306) zY0_0_10 dX10_put_2 (fun H locs hw => ?_)
  refine lv_aload_n hx hb dX10_put_5 rfl (lv_at hl 0 rfl) ?_
  refine z_getc hx hb hts zin_X10 hown hK hw zF0_0_0 (hts _ zw_296) dX10_put_6 ?_
  refine lv_iload_n hx hb dX10_put_9 rfl (lv_at hl 1 rfl) ?_
  refine z_cVi (As := [.int x1]) (rest := []) ⟨hx, hb, hml, hown, hts⟩ hK hw hA (kX6_has l D g ad (zwI σ 0 10 (0 : Int32)) x1 _ rfl) (zcwV 1 hts zgoodIn zw_338 zw_339 zw_340 zw_53 zw_341 rfl rfl hX6_has ⟨Nat.le_of_ble_eq_true rfl, Nat.le_of_ble_eq_true rfl⟩) zO0_1 rfl hl.1 rfl (Nat.le_of_ble_eq_true rfl) dX10_put_10 ⟨Nat.zero_le _, Nat.zero_le _⟩ (fun H locs hw => ?_)
  refine lv_if_ne (tgt := 18) hx hb dX10_put_13 (by decide) (fun t1 => ?_) (fun t1 => ?_)
  · rw [if_neg t1] at h
    refine lv_aload_n hx hb dX10_put_18 rfl (lv_at hl 0 rfl) ?_
    refine lv_aload_n hx hb dX10_put_19 rfl (lv_at hl 0 rfl) ?_
    refine z_getc hx hb hts zin_X10 hown hK hw zF0_0_0 (hts _ zw_296) dX10_put_20 ?_
    refine lv_iload_n hx hb dX10_put_23 rfl (lv_at hl 1 rfl) ?_
    refine lv_iload_n hx hb dX10_put_24 rfl (lv_at hl 2 rfl) ?_
    obtain ⟨r2, e3, h⟩ := zbind h
    refine z_cVi (As := [.int x1, .int x2]) (rest := [.ref (ad 0)]) ⟨hx, hb, hml, hown, hts⟩ hK hw hA (kX6_faultOfCell l D g ad (zwI σ 0 10 (0 : Int32)) x1 x2 r2 e3) (zcwV 2 hts zgoodIn zw_760 zw_761 zw_762 zw_53 zw_763 rfl rfl hX6_faultOfCell ⟨Nat.le_of_ble_eq_true rfl, Nat.le_of_ble_eq_true rfl⟩) zO0_1 rfl hl.1 rfl (Nat.le_of_ble_eq_true rfl) dX10_put_25 ⟨Nat.zero_le _, Nat.zero_le _⟩ (fun H locs hw => ?_)
    refine z_cVi (As := [.int r2]) (rest := []) ⟨hx, hb, hml, hown, hts⟩ hK hw hA (kX10_comeTo l D g ad (zwI σ 0 10 (0 : Int32)) r2 _ rfl) (zcwV 1 hts zgoodIn zw_357 zw_359 zw_2 zw_52 zw_360 rfl rfl hX10_comeTo ⟨Nat.le_of_ble_eq_true rfl, Nat.le_of_ble_eq_true rfl⟩) zO0_0 rfl hl.1 rfl (Nat.le_of_ble_eq_true rfl) dX10_put_28 ⟨Nat.zero_le _, Nat.zero_le _⟩ (fun H locs hw => ?_)
    refine lv_istore (lv' := [(4, .int ((fX10_comeTo (zwI σ 0 10 (0 : Int32)) r2).1)), (0, .ref (ad 0)), (1, .int x1), (2, .int x2), (3, .int x3)]) hx hb dX10_put_31 hl (by decide) rfl (fun ls hl => ?_)
    refine lv_iload hx hb dX10_put_33 (lv_at hl 0 rfl) ?_
    refine lv_if_eq (tgt := 41) hx hb dX10_put_35 (by decide) (fun t4 => ?_) (fun t4 => ?_)
    · rw [if_pos t4] at h
      refine lv_aload_n hx hb dX10_put_41 rfl (lv_at hl 1 rfl) ?_
      refine z_getc hx hb hts zin_X10 hown hK hw zF0_0_0 (hts _ zw_296) dX10_put_42 ?_
      refine lv_iload_n hx hb dX10_put_45 rfl (lv_at hl 2 rfl) ?_
      refine lv_iload_n hx hb dX10_put_46 rfl (lv_at hl 3 rfl) ?_
      refine lv_iload_n hx hb dX10_put_47 rfl (lv_at hl 4 rfl) ?_
      obtain ⟨r5, e6, h⟩ := zbind h
      refine z_cVv (As := [.int x1, .int x2, .int x3]) (rest := []) ⟨hx, hb, hml, hown, hts⟩ hK hw hA (kX6_write l D g ad ((fX10_comeTo (zwI σ 0 10 (0 : Int32)) r2).2) x1 x2 x3 r5 e6) (zcwV 3 hts zgoodIn zw_764 zw_765 zw_766 zw_53 zw_767 rfl rfl hX6_write ⟨Nat.le_of_ble_eq_true rfl, Nat.le_of_ble_eq_true rfl⟩) zO0_1 rfl hl.1 rfl (Nat.le_of_ble_eq_true rfl) dX10_put_48 ⟨Nat.zero_le _, Nat.zero_le _⟩ (fun H locs hw => ?_)
      refine lv_iconst (v := 1) hx hb dX10_put_51 (by decide) ?_
      obtain rfl := Option.some.inj h
      exact hret _ _ _ _ hw rfl dX10_put_52
    · rw [if_neg t4] at h
      refine lv_iload hx hb dX10_put_38 (lv_at hl 0 rfl) ?_
      obtain rfl := Option.some.inj h
      exact hret _ _ _ _ hw rfl dX10_put_40
  · rw [if_pos t1] at h
    refine lv_iconst (v := (-1)) hx hb dX10_put_16 (by decide) ?_
    obtain rfl := Option.some.inj h
    exact hret _ _ _ _ hw rfl dX10_put_17
theorem hX10_cell : yX10_cell.cls = RX10 ∧ yX10_cell.cls ≠ "java/lang/invoke/MethodHandle" ∧ yX10_cell.cls ≠ "java/lang/invoke/VarHandle" ∧ (parseMethodDescriptor yX10_cell.desc).map (fun d => d.parameters.length) = some 3 := by decide +kernel
set_option maxHeartbeats 4000000 in
set_option maxRecDepth 100000 in
theorem kX10_cell (l : Launch) (D : va_G) (g : zG) (ad : Nat → Nat) (σ : zSt) (x1 : Int32) (x2 : Int32) (x3 : Int32) (o : Int64 × zSt) (h : fX10_cell σ x1 x2 x3 = some o) : zMl l D g 0 ad yX10_cell (Cond.code yX10_cell cX10_cell 5 (some .long) :: zws) (zRm 2) [.ref (ad 0), .int x1, .int x2, .int x3] σ o.1 o.2 := by
  refine z_enter_l (by decide) (Nat.le_of_ble_eq_true rfl) ?_
  intro p e s m below meth c A ls Q C hw hl hret
  obtain ⟨hx, hb, hml, hown, hts, hK, hA⟩ := id C
  have hown : s.vm.findClass RX10 = some m.cls := hown
  have C : zCx p c cX10_cell s _ RX10 m 5 A s.heap D g := C
  have hl : lv_has ls 5 [(0, .ref (ad 0)), (1, .int x1), (2, .int x2), (3, .int x3)] := hl
  unfold fX10_cell at h
  refine lv_aload_n hx hb dX10_cell_0 rfl (lv_at hl 0 rfl) ?_
  refine lv_iload_n hx hb dX10_cell_1 rfl (lv_at hl 1 rfl) ?_
  refine lv_iload_n hx hb dX10_cell_2 rfl (lv_at hl 3 rfl) ?_
  refine z_cVi (As := [.int x1, .int x3]) (rest := []) ⟨hx, hb, hml, hown, hts⟩ hK hw hA (kX10_refuseRow l D g ad σ x1 x3 _ rfl) (zcwV 2 hts zgoodIn zw_334 zw_336 zw_0 zw_52 zw_337 rfl rfl hX10_refuseRow ⟨Nat.le_of_ble_eq_true rfl, Nat.le_of_ble_eq_true rfl⟩) zO0_0 rfl hl.1 rfl (Nat.le_of_ble_eq_true rfl) dX10_cell_3 ⟨Nat.zero_le _, Nat.zero_le _⟩ (fun H locs hw => ?_)
  refine lv_if_eq (tgt := 13) hx hb dX10_cell_6 (by decide) (fun t1 => ?_) (fun t1 => ?_)
  · rw [if_pos t1] at h
    refine lv_aload_n hx hb dX10_cell_13 rfl (lv_at hl 0 rfl) ?_
    refine z_getc hx hb hts zin_X10 hown hK hw zF0_0_0 (hts _ zw_296) dX10_cell_14 ?_
    refine lv_iload_n hx hb dX10_cell_17 rfl (lv_at hl 1 rfl) ?_
    refine lv_iload_n hx hb dX10_cell_18 rfl (lv_at hl 3 rfl) ?_
    obtain ⟨r2, e3, h⟩ := zbind h
    refine z_cVi (As := [.int x1, .int x3]) (rest := []) ⟨hx, hb, hml, hown, hts⟩ hK hw hA (kX6_isOtherSort l D g ad ((fX10_refuseRow σ x1 x3).2) x1 x3 r2 e3) (zcwV 2 hts zgoodIn zw_772 zw_350 zw_351 zw_53 zw_352 rfl rfl hX6_isOtherSort ⟨Nat.le_of_ble_eq_true rfl, Nat.le_of_ble_eq_true rfl⟩) zO0_1 rfl hl.1 rfl (Nat.le_of_ble_eq_true rfl) dX10_cell_19 ⟨Nat.zero_le _, Nat.zero_le _⟩ (fun H locs hw => ?_)
    refine lv_if_eq (tgt := 29) hx hb dX10_cell_22 (by decide) (fun t4 => ?_) (fun t4 => ?_)
    · rw [if_pos t4] at h
      refine lv_aload_n hx hb dX10_cell_29 rfl (lv_at hl 0 rfl) ?_
      refine z_getc hx hb hts zin_X10 hown hK hw zF0_0_0 (hts _ zw_296) dX10_cell_30 ?_
      refine lv_iload_n hx hb dX10_cell_33 rfl (lv_at hl 1 rfl) ?_
      refine lv_iload_n hx hb dX10_cell_34 rfl (lv_at hl 2 rfl) ?_
      obtain ⟨r5, e6, h⟩ := zbind h
      refine z_cVi (As := [.int x1, .int x2]) (rest := []) ⟨hx, hb, hml, hown, hts⟩ hK hw hA (kX6_faultOfCell l D g ad ((fX10_refuseRow σ x1 x3).2) x1 x2 r5 e6) (zcwV 2 hts zgoodIn zw_760 zw_761 zw_762 zw_53 zw_763 rfl rfl hX6_faultOfCell ⟨Nat.le_of_ble_eq_true rfl, Nat.le_of_ble_eq_true rfl⟩) zO0_1 rfl hl.1 rfl (Nat.le_of_ble_eq_true rfl) dX10_cell_35 ⟨Nat.zero_le _, Nat.zero_le _⟩ (fun H locs hw => ?_)
      refine lv_istore (lv' := [(4, .int r5), (0, .ref (ad 0)), (1, .int x1), (2, .int x2), (3, .int x3)]) hx hb dX10_cell_38 hl (by decide) rfl (fun ls hl => ?_)
      refine lv_aload_n hx hb dX10_cell_40 rfl (lv_at hl 1 rfl) ?_
      refine lv_iload hx hb dX10_cell_41 (lv_at hl 0 rfl) ?_
      refine z_cVi (As := [.int r5]) (rest := []) ⟨hx, hb, hml, hown, hts⟩ hK hw hA (kX10_comeTo l D g ad ((fX10_refuseRow σ x1 x3).2) r5 _ rfl) (zcwV 1 hts zgoodIn zw_357 zw_359 zw_2 zw_52 zw_360 rfl rfl hX10_comeTo ⟨Nat.le_of_ble_eq_true rfl, Nat.le_of_ble_eq_true rfl⟩) zO0_0 rfl hl.1 rfl (Nat.le_of_ble_eq_true rfl) dX10_cell_43 ⟨Nat.zero_le _, Nat.zero_le _⟩ (fun H locs hw => ?_)
      refine lv_if_eq (tgt := 55) hx hb dX10_cell_46 (by decide) (fun t7 => ?_) (fun t7 => ?_)
      · rw [if_pos t7] at h
        refine lv_aload_n hx hb dX10_cell_55 rfl (lv_at hl 1 rfl) ?_
        refine z_getc hx hb hts zin_X10 hown hK hw zF0_0_0 (hts _ zw_296) dX10_cell_56 ?_
        refine z_getc hx hb hts zin_X6 hown hK hw zF0_1_0 (hts _ zw_87) dX10_cell_59 ?_
        refine lv_iload_n hx hb dX10_cell_62 rfl (lv_at hl 2 rfl) ?_
        obtain ⟨q8, e9, h⟩ := zbind h
        refine z_aald hx hb hK hw e9 dX10_cell_63 ?_
        refine lv_iload_n hx hb dX10_cell_64 rfl (lv_at hl 3 rfl) ?_
        obtain ⟨v10, e11, h⟩ := zbind h
        refine z_iald hx hb hK hw e11 dX10_cell_65 ?_
        refine lv_i2l hx hb dX10_cell_66 rfl ?_
        obtain rfl := Option.some.inj h
        exact hret _ _ _ _ hw dX10_cell_67
      · rw [if_neg t7] at h
        refine lv_ldc2 hx hb hown (hts _ zw_513) dX10_cell_49 ?_
        refine lv_goto (tgt := 67) hx hb dX10_cell_52 (by decide) ?_
        obtain rfl := Option.some.inj h
        exact hret _ _ _ _ hw dX10_cell_67
    · rw [if_neg t4] at h
      refine lv_iconst (v := 2) hx hb dX10_cell_25 (by decide) ?_
      refine lv_goto (tgt := 38) hx hb dX10_cell_26 (by decide) ?_
      refine lv_istore (lv' := [(4, .int (2 : Int32)), (0, .ref (ad 0)), (1, .int x1), (2, .int x2), (3, .int x3)]) hx hb dX10_cell_38 hl (by decide) rfl (fun ls hl => ?_)
      refine lv_aload_n hx hb dX10_cell_40 rfl (lv_at hl 1 rfl) ?_
      refine lv_iload hx hb dX10_cell_41 (lv_at hl 0 rfl) ?_
      refine z_cVi (As := [.int (2 : Int32)]) (rest := []) ⟨hx, hb, hml, hown, hts⟩ hK hw hA (kX10_comeTo l D g ad ((fX10_refuseRow σ x1 x3).2) (2 : Int32) _ rfl) (zcwV 1 hts zgoodIn zw_357 zw_359 zw_2 zw_52 zw_360 rfl rfl hX10_comeTo ⟨Nat.le_of_ble_eq_true rfl, Nat.le_of_ble_eq_true rfl⟩) zO0_0 rfl hl.1 rfl (Nat.le_of_ble_eq_true rfl) dX10_cell_43 ⟨Nat.zero_le _, Nat.zero_le _⟩ (fun H locs hw => ?_)
      refine lv_if_eq (tgt := 55) hx hb dX10_cell_46 (by decide) (fun t12 => ?_) (fun t12 => ?_)
      · rw [if_pos t12] at h
        refine lv_aload_n hx hb dX10_cell_55 rfl (lv_at hl 1 rfl) ?_
        refine z_getc hx hb hts zin_X10 hown hK hw zF0_0_0 (hts _ zw_296) dX10_cell_56 ?_
        refine z_getc hx hb hts zin_X6 hown hK hw zF0_1_0 (hts _ zw_87) dX10_cell_59 ?_
        refine lv_iload_n hx hb dX10_cell_62 rfl (lv_at hl 2 rfl) ?_
        obtain ⟨q13, e14, h⟩ := zbind h
        refine z_aald hx hb hK hw e14 dX10_cell_63 ?_
        refine lv_iload_n hx hb dX10_cell_64 rfl (lv_at hl 3 rfl) ?_
        obtain ⟨v15, e16, h⟩ := zbind h
        refine z_iald hx hb hK hw e16 dX10_cell_65 ?_
        refine lv_i2l hx hb dX10_cell_66 rfl ?_
        obtain rfl := Option.some.inj h
        exact hret _ _ _ _ hw dX10_cell_67
      · rw [if_neg t12] at h
        refine lv_ldc2 hx hb hown (hts _ zw_513) dX10_cell_49 ?_
        refine lv_goto (tgt := 67) hx hb dX10_cell_52 (by decide) ?_
        obtain rfl := Option.some.inj h
        exact hret _ _ _ _ hw dX10_cell_67
  · rw [if_neg t1] at h
    refine lv_ldc2 hx hb hown (hts _ zw_513) dX10_cell_9 ?_
    obtain rfl := Option.some.inj h
    exact hret _ _ _ _ hw dX10_cell_12
