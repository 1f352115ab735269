/-! walks: X7_workSecond, X7_workMinute, X7_plan, X7_cost, X7_worker, X8_takeWord, X8_take, X8_twelfths, X8_sameMeaning, X9_leave, X9_take, X10_isSort, X10_refuseRow, X10_comeTo, X10_tongues, X10_isWord, X10_isWordOrNothing, X10_isWay, X10_becomes -/
theorem hX7_workSecond : yX7_workSecond.cls = RX7 ∧ yX7_workSecond.cls ≠ "java/lang/invoke/MethodHandle" ∧ yX7_workSecond.cls ≠ "java/lang/invoke/VarHandle" ∧ (parseMethodDescriptor yX7_workSecond.desc).map (fun d => d.parameters.length) = some 3 := by decide +kernel
set_option maxHeartbeats 4000000 in
set_option maxRecDepth 100000 in
theorem kX7_workSecond (l : Launch) (D : va_G) (g : zG) (ad : Nat → Nat) (σ : zSt) (x1 : Int32) (x2 : Int32) (x3 : Int64) (o : zSt) (h : fX7_workSecond σ x1 x2 x3 = some o) : zMv l D g 0 ad yX7_workSecond (Cond.code yX7_workSecond cX7_workSecond 9 (none : Option Jvm.ClassFile.FieldType) :: zws) (zRm 1) [.ref (ad 9), .int x1, .int x2, .long x3] σ o := by
  refine z_enter_v (by decide) (Nat.le_of_ble_eq_true rfl) ?_
  intro p e s m below meth c A ls Q C hw hl hret
  obtain ⟨hx, hb, hml, hown, hts, hK, hA⟩ := id C
  have hown : s.vm.findClass RX7 = some m.cls := hown
  have C : zCx p c cX7_workSecond s _ RX7 m 9 A s.heap D g := C
  have hl : lv_has ls 9 [(0, .ref (ad 9)), (1, .int x1), (2, .int x2), (3, .long x3)] := hl
  unfold fX7_workSecond at h
  refine lv_iload_n hx hb dX7_workSecond_0 rfl (lv_at hl 1 rfl) ?_
  refine z_cSi (As := [.int x1]) (rest := []) ⟨hx, hb, hml, hown, hts⟩ hK hw hA (kX7_secondOf l D g ad σ x1 _ rfl) (zcwS 1 hts zgoodIn zw_706 zw_707 zw_62 zw_708 rfl rfl hX7_secondOf ⟨Nat.le_of_ble_eq_true rfl, Nat.le_of_ble_eq_true rfl⟩) rfl hl.1 rfl (Nat.le_of_ble_eq_true rfl) dX7_workSecond_1 ⟨Nat.zero_le _, Nat.zero_le _⟩ (fun H locs hw => ?_)
  refine lv_istore (lv' := [(5, .int (fX7_secondOf x1)), (0, .ref (ad 9)), (1, .int x1), (2, .int x2), (3, .long x3)]) hx hb dX7_workSecond_4 hl (by decide) rfl (fun ls hl => ?_)
  refine lv_iload hx hb dX7_workSecond_6 (lv_at hl 0 rfl) ?_
  refine lv_iload_n hx hb dX7_workSecond_8 rfl (lv_at hl 2 rfl) ?_
  refine z_cSi (As := [.int x1]) (rest := [.int (fX7_secondOf x1)]) ⟨hx, hb, hml, hown, hts⟩ hK hw hA (kX7_lastOf l D g ad σ x1 _ rfl) (zcwS 1 hts zgoodIn zw_702 zw_703 zw_62 zw_704 rfl rfl hX7_lastOf ⟨Nat.le_of_ble_eq_true rfl, Nat.le_of_ble_eq_true rfl⟩) rfl hl.1 rfl (Nat.le_of_ble_eq_true rfl) dX7_workSecond_9 ⟨Nat.zero_le _, Nat.zero_le _⟩ (fun H locs hw => ?_)
  refine lv_iconst (v := 1) hx hb dX7_workSecond_12 (by decide) ?_
  refine lv_icmp_ne (tgt := 20) hx hb dX7_workSecond_13 (by decide) (fun t1 => ?_) (fun t1 => ?_)
  · rw [if_neg t1] at h
    refine lv_iload_n hx hb dX7_workSecond_20 rfl (lv_at hl 3 rfl) ?_
    refine lv_iadd hx hb dX7_workSecond_21 ?_
    refine lv_i2l hx hb dX7_workSecond_22 rfl ?_
    refine lv_lstore (lv' := [(6, .long (((fX7_secondOf x1) + x2).toInt64)), (5, .int (fX7_secondOf x1)), (0, .ref (ad 9)), (1, .int x1), (2, .int x2), (3, .long x3)]) hx hb dX7_workSecond_23 hl (by decide) rfl (fun ls hl => ?_)
    refine lv_iconst (v := 0) hx hb dX7_workSecond_25 (by decide) ?_
    refine lv_iload_n hx hb dX7_workSecond_26 rfl (lv_at hl 3 rfl) ?_
    refine z_cSi (As := [.int x1]) (rest := [.int (0 : Int32)]) ⟨hx, hb, hml, hown, hts⟩ hK hw hA (kX7_firstOf l D g ad σ x1 _ rfl) (zcwS 1 hts zgoodIn zw_699 zw_700 zw_62 zw_701 rfl rfl hX7_firstOf ⟨Nat.le_of_ble_eq_true rfl, Nat.le_of_ble_eq_true rfl⟩) rfl hl.1 rfl (Nat.le_of_ble_eq_true rfl) dX7_workSecond_27 ⟨Nat.zero_le _, Nat.zero_le _⟩ (fun H locs hw => ?_)
    refine lv_iconst (v := 1) hx hb dX7_workSecond_30 (by decide) ?_
    refine lv_isub hx hb dX7_workSecond_31 ?_
    refine va_mmax hx hb (hml.trans hl.1.symm) hown (hts _ zw_709) (hts _ zw_710) (hts _ zw_65) (hts _ zw_711) (Nat.le_of_ble_eq_true rfl) (Nat.le_of_ble_eq_true rfl) (Nat.zero_le _) (Nat.zero_le _) dX7_workSecond_32 ?_
    refine lv_bipush (v := 9) hx hb dX7_workSecond_35 (by decide) ?_
    refine lv_iload hx hb dX7_workSecond_37 (lv_at hl 1 rfl) ?_
    refine lv_iconst (v := 1) hx hb dX7_workSecond_39 (by decide) ?_
    refine lv_iadd hx hb dX7_workSecond_40 ?_
    refine va_mmin hx hb (hml.trans hl.1.symm) hown (hts _ zw_705) (hts _ zw_386) (hts _ zw_65) (hts _ zw_387) (Nat.le_of_ble_eq_true rfl) (Nat.le_of_ble_eq_true rfl) (Nat.zero_le _) (Nat.zero_le _) dX7_workSecond_41 ?_
    refine lv_iconst (v := 1) hx hb dX7_workSecond_44 (by decide) ?_
    refine z_cSi (As := [.int (if (0 : Int32) < (fX7_firstOf x1) - (1 : Int32) then (fX7_firstOf x1) - (1 : Int32) else (0 : Int32)), .int (if (fX7_secondOf x1) + (1 : Int32) < (9 : Int32) then (fX7_secondOf x1) + (1 : Int32) else (9 : Int32)), .int (1 : Int32)]) (rest := []) ⟨hx, hb, hml, hown, hts⟩ hK hw hA (kX7_stateOf l D g ad σ (if (0 : Int32) < (fX7_firstOf x1) - (1 : Int32) then (fX7_firstOf x1) - (1 : Int32) else (0 : Int32)) (if (fX7_secondOf x1) + (1 : Int32) < (9 : Int32) then (fX7_secondOf x1) + (1 : Int32) else (9 : Int32)) (1 : Int32) _ rfl) (zcwS 3 hts zgoodIn zw_688 zw_689 zw_62 zw_690 rfl rfl hX7_stateOf ⟨Nat.le_of_ble_eq_true rfl, Nat.le_of_ble_eq_true rfl⟩) rfl hl.1 rfl (Nat.le_of_ble_eq_true rfl) dX7_workSecond_45 ⟨Nat.zero_le _, Nat.zero_le _⟩ (fun H locs hw => ?_)
    refine lv_istore (lv' := [(8, .int (fX7_stateOf (if (0 : Int32) < (fX7_firstOf x1) - (1 : Int32) then (fX7_firstOf x1) - (1 : Int32) else (0 : Int32)) (if (fX7_secondOf x1) + (1 : Int32) < (9 : Int32) then (fX7_secondOf x1) + (1 : Int32) else (9 : Int32)) (1 : Int32))), (6, .long (((fX7_secondOf x1) + x2).toInt64)), (5, .int (fX7_secondOf x1)), (0, .ref (ad 9)), (1, .int x1), (2, .int x2), (3, .long x3)]) hx hb dX7_workSecond_48 hl (by decide) rfl (fun ls hl => ?_)
    refine lv_aload_n hx hb dX7_workSecond_50 rfl (lv_at hl 3 rfl) ?_
    refine z_getr hx hb hts zin_X7 hown hK hw zF0_9_1 (hts _ zw_265) dX7_workSecond_51 ?_
    refine lv_iload hx hb dX7_workSecond_54 (lv_at hl 0 rfl) ?_
    refine lv_aload_n hx hb dX7_workSecond_56 rfl (lv_at hl 3 rfl) ?_
    refine z_getr hx hb hts zin_X7 hown hK hw zF0_9_1 (hts _ zw_265) dX7_workSecond_57 ?_
    refine lv_iload hx hb dX7_workSecond_60 (lv_at hl 0 rfl) ?_
    obtain ⟨v2, e3, h⟩ := zbind h
    refine z_lald hx hb hK hw e3 dX7_workSecond_62 ?_
    refine lv_aload_n hx hb dX7_workSecond_63 rfl (lv_at hl 3 rfl) ?_
    refine z_getr hx hb hts zin_X7 hown hK hw zF0_9_0 (hts _ zw_264) dX7_workSecond_64 ?_
    refine lv_iload_n hx hb dX7_workSecond_67 rfl (lv_at hl 4 rfl) ?_
    obtain ⟨v4, e5, h⟩ := zbind h
    refine z_lald hx hb hK hw e5 dX7_workSecond_68 ?_
    refine lv_lload hx hb dX7_workSecond_69 (lv_at hl 1 rfl) ?_
    refine lv_bipush (v := 40) hx hb dX7_workSecond_71 (by decide) ?_
    refine lv_lshl hx hb dX7_workSecond_73 rfl ?_
    refine lv_ladd hx hb dX7_workSecond_74 ?_
    refine lv_lload_n hx hb dX7_workSecond_75 rfl (lv_at hl 6 rfl) ?_
    refine lv_ladd hx hb dX7_workSecond_76 ?_
    refine va_mmin_long hx hb (hml.trans hl.1.symm) hown (hts _ zw_712) (hts _ zw_713) (hts _ zw_65) (hts _ zw_714) (Nat.le_of_ble_eq_true rfl) (Nat.le_of_ble_eq_true rfl) (Nat.zero_le _) (Nat.zero_le _) dX7_workSecond_77 ?_
    obtain ⟨s6, e7, h⟩ := zbind h
    refine z_last hx hb hK hw e7 dX7_workSecond_80 (fun H locs hw => ?_)
    obtain rfl := Option.some.inj h
    exact hret _ _ _ _ hw dX7_workSecond_81
  · rw [if_pos t1] at h
    refine lv_iconst (v := 0) hx hb dX7_workSecond_16 (by decide) ?_
    refine lv_goto (tgt := 21) hx hb dX7_workSecond_17 (by decide) ?_
    refine lv_iadd hx hb dX7_workSecond_21 ?_
    refine lv_i2l hx hb dX7_workSecond_22 rfl ?_
    refine lv_lstore (lv' := [(6, .long (((fX7_secondOf x1) + (0 : Int32)).toInt64)), (5, .int (fX7_secondOf x1)), (0, .ref (ad 9)), (1, .int x1), (2, .int x2), (3, .long x3)]) hx hb dX7_workSecond_23 hl (by decide) rfl (fun ls hl => ?_)
    refine lv_iconst (v := 0) hx hb dX7_workSecond_25 (by decide) ?_
    refine lv_iload_n hx hb dX7_workSecond_26 rfl (lv_at hl 3 rfl) ?_
    refine z_cSi (As := [.int x1]) (rest := [.int (0 : Int32)]) ⟨hx, hb, hml, hown, hts⟩ hK hw hA (kX7_firstOf l D g ad σ x1 _ rfl) (zcwS 1 hts zgoodIn zw_699 zw_700 zw_62 zw_701 rfl rfl hX7_firstOf ⟨Nat.le_of_ble_eq_true rfl, Nat.le_of_ble_eq_true rfl⟩) rfl hl.1 rfl (Nat.le_of_ble_eq_true rfl) dX7_workSecond_27 ⟨Nat.zero_le _, Nat.zero_le _⟩ (fun H locs hw => ?_)
    refine lv_iconst (v := 1) hx hb dX7_workSecond_30 (by decide) ?_
    refine lv_isub hx hb dX7_workSecond_31 ?_
    refine va_mmax hx hb (hml.trans hl.1.symm) hown (hts _ zw_709) (hts _ zw_710) (hts _ zw_65) (hts _ zw_711) (Nat.le_of_ble_eq_true rfl) (Nat.le_of_ble_eq_true rfl) (Nat.zero_le _) (Nat.zero_le _) dX7_workSecond_32 ?_
    refine lv_bipush (v := 9) hx hb dX7_workSecond_35 (by decide) ?_
    refine lv_iload hx hb dX7_workSecond_37 (lv_at hl 1 rfl) ?_
    refine lv_iconst (v := 1) hx hb dX7_workSecond_39 (by decide) ?_
    refine lv_iadd hx hb dX7_workSecond_40 ?_
    refine va_mmin hx hb (hml.trans hl.1.symm) hown (hts _ zw_705) (hts _ zw_386) (hts _ zw_65) (hts _ zw_387) (Nat.le_of_ble_eq_true rfl) (Nat.le_of_ble_eq_true rfl) (Nat.zero_le _) (Nat.zero_le _) dX7_workSecond_41 ?_
    refine lv_iconst (v := 1) hx hb dX7_workSecond_44 (by decide) ?_
    refine z_cSi (As := [.int (if (0 : Int32) < (fX7_firstOf x1) - (1 : Int32) then (fX7_firstOf x1) - (1 : Int32) else (0 : Int32)), .int (if (fX7_secondOf x1) + (1 : Int32) < (9 : Int32) then (fX7_secondOf x1) + (1 : Int32) else (9 : Int32)), .int (1 : Int32)]) (rest := []) ⟨hx, hb, hml, hown, hts⟩ hK hw hA (kX7_stateOf l D g ad σ (if (0 : Int32) < (fX7_firstOf x1) - (1 : Int32) then (fX7_firstOf x1) - (1 : Int32) else (0 : Int32)) (if (fX7_secondOf x1) + (1 : Int32) < (9 : Int32) then (fX7_secondOf x1) + (1 : Int32) else (9 : Int32)) (1 : Int32) _ rfl) (zcwS 3 hts zgoodIn zw_688 zw_689 zw_62 zw_690 rfl rfl hX7_stateOf ⟨Nat.le_of_ble_eq_true rfl, Nat.le_of_ble_eq_true rfl⟩) rfl hl.1 rfl (Nat.le_of_ble_eq_true rfl) dX7_workSecond_45 ⟨Nat.zero_le _, Nat.zero_le _⟩ (fun H locs hw => ?_)
    refine lv_istore (lv' := [(8, .int (fX7_stateOf (if (0 : Int32) < (fX7_firstOf x1) - (1 : Int32) then (fX7_firstOf x1) - (1 : Int32) else (0 : Int32)) (if (fX7_secondOf x1) + (1 : Int32) < (9 : Int32) then (fX7_secondOf x1) + (1 : Int32) else (9 : Int32)) (1 : Int32))), (6, .long (((fX7_secondOf x1) + (0 : Int32)).toInt64)), (5, .int (fX7_secondOf x1)), (0, .ref (ad 9)), (1, .int x1), (2, .int x2), (3, .long x3)]) hx hb dX7_workSecond_48 hl (by decide) rfl (fun ls hl => ?_)
    refine lv_aload_n hx hb dX7_workSecond_50 rfl (lv_at hl 3 rfl) ?_
    refine z_getr hx hb hts zin_X7 hown hK hw zF0_9_1 (hts _ zw_265) dX7_workSecond_51 ?_
    refine lv_iload hx hb dX7_workSecond_54 (lv_at hl 0 rfl) ?_
    refine lv_aload_n hx hb dX7_workSecond_56 rfl (lv_at hl 3 rfl) ?_
    refine z_getr hx hb hts zin_X7 hown hK hw zF0_9_1 (hts _ zw_265) dX7_workSecond_57 ?_
    refine lv_iload hx hb dX7_workSecond_60 (lv_at hl 0 rfl) ?_
    obtain ⟨v8, e9, h⟩ := zbind h
    refine z_lald hx hb hK hw e9 dX7_workSecond_62 ?_
    refine lv_aload_n hx hb dX7_workSecond_63 rfl (lv_at hl 3 rfl) ?_
    refine z_getr hx hb hts zin_X7 hown hK hw zF0_9_0 (hts _ zw_264) dX7_workSecond_64 ?_
    refine lv_iload_n hx hb dX7_workSecond_67 rfl (lv_at hl 4 rfl) ?_
    obtain ⟨v10, e11, h⟩ := zbind h
    refine z_lald hx hb hK hw e11 dX7_workSecond_68 ?_
    refine lv_lload hx hb dX7_workSecond_69 (lv_at hl 1 rfl) ?_
    refine lv_bipush (v := 40) hx hb dX7_workSecond_71 (by decide) ?_
    refine lv_lshl hx hb dX7_workSecond_73 rfl ?_
    refine lv_ladd hx hb dX7_workSecond_74 ?_
    refine lv_lload_n hx hb dX7_workSecond_75 rfl (lv_at hl 6 rfl) ?_
    refine lv_ladd hx hb dX7_workSecond_76 ?_
    refine va_mmin_long hx hb (hml.trans hl.1.symm) hown (hts _ zw_712) (hts _ zw_713) (hts _ zw_65) (hts _ zw_714) (Nat.le_of_ble_eq_true rfl) (Nat.le_of_ble_eq_true rfl) (Nat.zero_le _) (Nat.zero_le _) dX7_workSecond_77 ?_
    obtain ⟨s12, e13, h⟩ := zbind h
    refine z_last hx hb hK hw e13 dX7_workSecond_80 (fun H locs hw => ?_)
    obtain rfl := Option.some.inj h
    exact hret _ _ _ _ hw dX7_workSecond_81
set_option maxHeartbeats 4000000 in
set_option maxRecDepth 100000 in
theorem wX7_workMinute_13 {p : Program} {l : Launch} {e : Env} {s : State} {m : MethodId} {args : Array Value} {below : List Frame} {meth : Method} {c : Code} {A : Nat → Prop} {H0 : Heap} {Q : State → Prop} {D : va_G} {g : zG} {ad : Nat → Nat} (C : zCx p c cX7_workMinute s args RX7 m 5 A H0 D g) (x1 : Int32) (x2 : Int64) (n : Nat) (a : (Int32 × zSt)) (b : (Int32 × zSt)) (h : zLp (fun a => bX7_workMinute_13 x1 x2 a.1 a.2) n a = some b) (hk : ∀ (H : Heap) (locs : List Loc) (ls : Array Slot), zH D g 0 ad A H0 b.2 H locs → lv_has ls 5 [(0, .ref (ad 9)), (1, .int x1), (2, .long x2), (4, .int b.1)] → W p l e (zRm 2) s m args below meth c H locs 0 0 Q (F0 m 56 ls [])) : ∀ (H : Heap) (locs : List Loc) (ls : Array Slot), zH D g 0 ad A H0 a.2 H locs → lv_has ls 5 [(0, .ref (ad 9)), (1, .int x1), (2, .long x2), (4, .int a.1)] → W p l e (zRm 2) s m args below meth c H locs 0 0 Q (F0 m 13 ls []) := by
  obtain ⟨hx, hb, hml, hown, hts, hK, hA⟩ := id C
  refine zLp_walk (P := fun (a : (Int32 × zSt)) => ∀ (H : Heap) (locs : List Loc) (ls : Array Slot), zH D g 0 ad A H0 a.2 H locs → lv_has ls 5 [(0, .ref (ad 9)), (1, .int x1), (2, .long x2), (4, .int a.1)] → W p l e (zRm 2) s m args below meth c H locs 0 0 Q (F0 m 13 ls [])) (E := fun (b' : (Int32 × zSt)) => b' = b) ?_ n a b h rfl
  intro a r h hn he H locs ls hw hl
  obtain ⟨x4, σ⟩ := a
  have h : bX7_workMinute_13 x1 x2 x4 σ = some r := h
  have hl : lv_has ls 5 [(0, .ref (ad 9)), (1, .int x1), (2, .long x2), (4, .int x4)] := hl
  have hw : zH D g 0 ad A H0 σ H locs := hw
  unfold bX7_workMinute_13 at h
  refine lv_iload hx hb dX7_workMinute_13 (lv_at hl 3 rfl) ?_
  refine lv_sipush (v := 200) hx hb dX7_workMinute_15 (by decide) ?_
  refine lv_icmp_ge (tgt := 56) hx hb dX7_workMinute_18 (by decide) (fun t1 => ?_) (fun t1 => ?_)
  · rw [if_pos t1] at h
    obtain rfl := Option.some.inj h
    obtain rfl := he _ rfl
    exact hk _ _ _ hw (lv_sub hl [0, 1, 2, 3] rfl)
  · rw [if_neg t1] at h
    refine lv_aload_n hx hb dX7_workMinute_21 rfl (lv_at hl 0 rfl) ?_
    refine z_getr hx hb hts zin_X7 hown hK hw zF0_9_0 (hts _ zw_264) dX7_workMinute_22 ?_
    refine lv_iload hx hb dX7_workMinute_25 (lv_at hl 3 rfl) ?_
    obtain ⟨v2, e3, h⟩ := zbind h
    refine z_lald hx hb hK hw e3 dX7_workMinute_27 ?_
    refine lv_ldc2 hx hb hown (hts _ zw_686) dX7_workMinute_28 ?_
    refine z_lceq (tgt := 50) hx hb dX7_workMinute_31 dX7_workMinute_32 (by decide) (fun t4 => ?_) (fun t4 => ?_)
    · rw [if_pos t4] at h
      refine lv_iinc (v := x4 + 1) (lv' := [(4, .int (x4 + 1)), (0, .ref (ad 9)), (1, .int x1), (2, .long x2)]) hx hb dX7_workMinute_50 hl (k := 3) rfl rfl (by decide) rfl (fun ls hl => ?_)
      refine lv_goto (tgt := 13) hx hb dX7_workMinute_53 (by decide) ?_
      obtain rfl := Option.some.inj h
      exact hn _ rfl _ _ _ hw (lv_sub hl [1, 2, 3, 0] rfl)
    · rw [if_neg t4] at h
      refine lv_aload_n hx hb dX7_workMinute_35 rfl (lv_at hl 0 rfl) ?_
      refine lv_iload hx hb dX7_workMinute_36 (lv_at hl 3 rfl) ?_
      refine lv_iload_n hx hb dX7_workMinute_38 rfl (lv_at hl 1 rfl) ?_
      obtain ⟨r5, e6, h⟩ := zbind h
      refine z_cVv (As := [.int x4, .int x1]) (rest := []) ⟨hx, hb, hml, hown, hts⟩ hK hw hA (kX7_workFirst l D g ad σ x4 x1 r5 e6) (zcwV 2 hts zgoodIn zw_695 zw_697 zw_18 zw_62 zw_698 rfl rfl hX7_workFirst ⟨Nat.le_of_ble_eq_true rfl, Nat.le_of_ble_eq_true rfl⟩) zO0_9 rfl hl.1 rfl (Nat.le_of_ble_eq_true rfl) dX7_workMinute_39 ⟨Nat.zero_le _, Nat.zero_le _⟩ (fun H locs hw => ?_)
      refine lv_aload_n hx hb dX7_workMinute_42 rfl (lv_at hl 0 rfl) ?_
      refine lv_iload hx hb dX7_workMinute_43 (lv_at hl 3 rfl) ?_
      refine lv_iload_n hx hb dX7_workMinute_45 rfl (lv_at hl 1 rfl) ?_
      refine lv_lload_n hx hb dX7_workMinute_46 rfl (lv_at hl 2 rfl) ?_
      obtain ⟨r7, e8, h⟩ := zbind h
      refine z_cVv (As := [.int x4, .int x1, .long x2]) (rest := []) ⟨hx, hb, hml, hown, hts⟩ hK hw hA (kX7_workSecond l D g ad r5 x4 x1 x2 r7 e8) (zcwV 3 hts zgoodIn zw_715 zw_717 zw_19 zw_62 zw_718 rfl rfl hX7_workSecond ⟨Nat.le_of_ble_eq_true rfl, Nat.le_of_ble_eq_true rfl⟩) zO0_9 rfl hl.1 rfl (Nat.le_of_ble_eq_true rfl) dX7_workMinute_47 ⟨Nat.zero_le _, Nat.zero_le _⟩ (fun H locs hw => ?_)
      refine lv_iinc (v := x4 + 1) (lv' := [(4, .int (x4 + 1)), (0, .ref (ad 9)), (1, .int x1), (2, .long x2)]) hx hb dX7_workMinute_50 hl (k := 3) rfl rfl (by decide) rfl (fun ls hl => ?_)
      refine lv_goto (tgt := 13) hx hb dX7_workMinute_53 (by decide) ?_
      obtain rfl := Option.some.inj h
      exact hn _ rfl _ _ _ hw (lv_sub hl [1, 2, 3, 0] rfl)
theorem hX7_workMinute : yX7_workMinute.cls = RX7 ∧ yX7_workMinute.cls ≠ "java/lang/invoke/MethodHandle" ∧ yX7_workMinute.cls ≠ "java/lang/invoke/VarHandle" ∧ (parseMethodDescriptor yX7_workMinute.desc).map (fun d => d.parameters.length) = some 2 := by decide +kernel
set_option maxHeartbeats 4000000 in
set_option maxRecDepth 100000 in
theorem kX7_workMinute (l : Launch) (D : va_G) (g : zG) (ad : Nat → Nat) (σ : zSt) (x1 : Int32) (x2 : Int64) (o : zSt) (h : fX7_workMinute σ x1 x2 = some o) : zMv l D g 0 ad yX7_workMinute (Cond.code yX7_workMinute cX7_workMinute 5 (none : Option Jvm.ClassFile.FieldType) :: zws) (zRm 2) [.ref (ad 9), .int x1, .long x2] σ o := by
  refine z_enter_v (by decide) (Nat.le_of_ble_eq_true rfl) ?_
  intro p e s m below meth c A ls Q C hw hl hret
  obtain ⟨hx, hb, hml, hown, hts, hK, hA⟩ := id C
  have hown : s.vm.findClass RX7 = some m.cls := hown
  have C : zCx p c cX7_workMinute s _ RX7 m 5 A s.heap D g := C
  have hl : lv_has ls 5 [(0, .ref (ad 9)), (1, .int x1), (2, .long x2)] := hl
  unfold fX7_workMinute at h
  refine lv_aload_n hx hb dX7_workMinute_0 rfl (lv_at hl 0 rfl) ?_
  refine z_getr hx hb hts zin_X7 hown hK hw zF0_9_1 (hts _ zw_265) dX7_workMinute_1 ?_
  refine lv_ldc2 hx hb hown (hts _ zw_686) dX7_workMinute_4 ?_
  obtain ⟨r1, e2, h⟩ := zbind h
  refine z_cSv (As := [.ref (ad (zR σ 9 1)), .long (9223372036854775807 : Int64)]) (rest := []) ⟨hx, hb, hml, hown, hts⟩ hK hw hA (kJ7_fill_d0a16 l D g ad σ (zR σ 9 1) (9223372036854775807 : Int64) r1 e2) (zcwS 2 hts zgoodIn zw_687 zw_483 zw_54 zw_484 rfl rfl hJ7_fill_d0a16 ⟨Nat.le_of_ble_eq_true rfl, Nat.le_of_ble_eq_true rfl⟩) rfl hl.1 rfl (Nat.le_of_ble_eq_true rfl) dX7_workMinute_7 ⟨Nat.zero_le _, Nat.zero_le _⟩ (fun H locs hw => ?_)
  refine lv_iconst (v := 0) hx hb dX7_workMinute_10 (by decide) ?_
  refine lv_istore (lv' := [(4, .int (0 : Int32)), (0, .ref (ad 9)), (1, .int x1), (2, .long x2)]) hx hb dX7_workMinute_11 hl (by decide) rfl (fun ls hl => ?_)
  obtain ⟨b3, e4, h⟩ := zbind h
  refine wX7_workMinute_13 C x1 x2 zFU ((0 : Int32), r1) b3 e4 (fun H locs ls hw hl => ?_) _ _ _ hw (lv_sub hl [1, 2, 3, 0] rfl)
  have hl : lv_has ls 5 [(0, .ref (ad 9)), (1, .int x1), (2, .long x2), (4, .int b3.1)] := hl
  refine lv_aload_n hx hb dX7_workMinute_56 rfl (lv_at hl 0 rfl) ?_
  refine z_getr hx hb hts zin_X7 hown hK hw zF0_9_0 (hts _ zw_264) dX7_workMinute_57 ?_
  refine lv_astore (lv' := [(4, .ref (ad (zR b3.2 9 0))), (0, .ref (ad 9)), (1, .int x1), (2, .long x2)]) hx hb dX7_workMinute_60 hl (by decide) rfl (fun ls hl => ?_)
  refine lv_aload_n hx hb dX7_workMinute_62 rfl (lv_at hl 1 rfl) ?_
  refine lv_aload_n hx hb dX7_workMinute_63 rfl (lv_at hl 1 rfl) ?_
  refine z_getr hx hb hts zin_X7 hown hK hw zF0_9_1 (hts _ zw_265) dX7_workMinute_64 ?_
  refine z_putr hx hb hts zin_X7 tyX7_ok nmX7 hown hK hw zF0_9_0 (hts _ zw_264) zY0_9_0 dX7_workMinute_67 (fun H locs hw => ?_)
  refine lv_aload_n hx hb dX7_workMinute_70 rfl (lv_at hl 1 rfl) ?_
  refine lv_aload hx hb dX7_workMinute_71 (lv_at hl 0 rfl) ?_
  refine z_putr hx hb hts zin_X7 tyX7_ok nmX7 hown hK hw zF0_9_1 (hts _ zw_265) zY0_9_1 dX7_workMinute_73 (fun H locs hw => ?_)
  obtain rfl := Option.some.inj h
  exact hret _ _ _ _ hw dX7_workMinute_76
set_option maxHeartbeats 4000000 in
set_option maxRecDepth 100000 in
theorem wX7_plan_54 {p : Program} {l : Launch} {e : Env} {s : State} {m : MethodId} {args : Array Value} {below : List Frame} {meth : Method} {c : Code} {A : Nat → Prop} {H0 : Heap} {Q : State → Prop} {D : va_G} {g : zG} {ad : Nat → Nat} (C : zCx p c cX7_plan s args RX7 m 7 A H0 D g) (x3 : Int32) (x4 : Int32) (x5 : Int32) (n : Nat) (a : (Int32 × zSt)) (b : (Int32 × zSt)) (h : zLp (fun a => bX7_plan_54 x3 x4 x5 a.1 a.2) n a = some b) (hk : ∀ (H : Heap) (locs : List Loc) (ls : Array Slot), zH D g 0 ad A H0 b.2 H locs → lv_has ls 7 [(0, .ref (ad 9)), (3, .int x3), (4, .int x4), (5, .int x5), (6, .int b.1)] → W p l e (zRm 3) s m args below meth c H locs 0 0 Q (F0 m 89 ls [])) : ∀ (H : Heap) (locs : List Loc) (ls : Array Slot), zH D g 0 ad A H0 a.2 H locs → lv_has ls 7 [(0, .ref (ad 9)), (3, .int x3), (4, .int x4), (5, .int x5), (6, .int a.1)] → W p l e (zRm 3) s m args below meth c H locs 0 0 Q (F0 m 54 ls []) := by
  obtain ⟨hx, hb, hml, hown, hts, hK, hA⟩ := id C
  refine zLp_walk (P := fun (a : (Int32 × zSt)) => ∀ (H : Heap) (locs : List Loc) (ls : Array Slot), zH D g 0 ad A H0 a.2 H locs → lv_has ls 7 [(0, .ref (ad 9)), (3, .int x3), (4, .int x4), (5, .int x5), (6, .int a.1)] → W p l e (zRm 3) s m args below meth c H locs 0 0 Q (F0 m 54 ls [])) (E := fun (b' : (Int32 × zSt)) => b' = b) ?_ n a b h rfl
  intro a r h hn he H locs ls hw hl
  obtain ⟨x6, σ⟩ := a
  have h : bX7_plan_54 x3 x4 x5 x6 σ = some r := h
  have hl : lv_has ls 7 [(0, .ref (ad 9)), (3, .int x3), (4, .int x4), (5, .int x5), (6, .int x6)] := hl
  have hw : zH D g 0 ad A H0 σ H locs := hw
  unfold bX7_plan_54 at h
  refine lv_iload hx hb dX7_plan_54 (lv_at hl 4 rfl) ?_
  refine lv_iload_n hx hb dX7_plan_56 rfl (lv_at hl 1 rfl) ?_
  refine lv_icmp_ge (tgt := 89) hx hb dX7_plan_57 (by decide) (fun t1 => ?_) (fun t1 => ?_)
  · rw [if_pos t1] at h
    obtain rfl := Option.some.inj h
    obtain rfl := he _ rfl
    exact hk _ _ _ hw (lv_sub hl [0, 1, 2, 3, 4] rfl)
  · rw [if_neg t1] at h
    refine lv_aload_n hx hb dX7_plan_60 rfl (lv_at hl 0 rfl) ?_
    refine lv_iload hx hb dX7_plan_61 (lv_at hl 4 rfl) ?_
    refine lv_if_ne (tgt := 70) hx hb dX7_plan_63 (by decide) (fun t2 => ?_) (fun t2 => ?_)
    · rw [if_neg t2] at h
      refine lv_iload hx hb dX7_plan_70 (lv_at hl 2 rfl) ?_
      refine lv_lconst (v := 1) hx hb dX7_plan_72 (by decide) ?_
      refine lv_iload_n hx hb dX7_plan_73 rfl (lv_at hl 1 rfl) ?_
      refine lv_iconst (v := 1) hx hb dX7_plan_74 (by decide) ?_
      refine lv_isub hx hb dX7_plan_75 ?_
      refine lv_iload hx hb dX7_plan_76 (lv_at hl 4 rfl) ?_
      refine lv_isub hx hb dX7_plan_78 ?_
      refine lv_lshl hx hb dX7_plan_79 rfl ?_
      obtain ⟨r3, e4, h⟩ := zbind h
      refine z_cVv (As := [.int x4, .long ((1 : Int64) <<< (((x3 - (1 : Int32)) - x6).toInt64 &&& 63))]) (rest := []) ⟨hx, hb, hml, hown, hts⟩ hK hw hA (kX7_workMinute l D g ad σ x4 ((1 : Int64) <<< (((x3 - (1 : Int32)) - x6).toInt64 &&& 63)) r3 e4) (zcwV 2 hts zgoodIn zw_691 zw_693 zw_17 zw_62 zw_694 rfl rfl hX7_workMinute ⟨Nat.le_of_ble_eq_true rfl, Nat.le_of_ble_eq_true rfl⟩) zO0_9 rfl hl.1 rfl (Nat.le_of_ble_eq_true rfl) dX7_plan_80 ⟨Nat.zero_le _, Nat.zero_le _⟩ (fun H locs hw => ?_)
      refine lv_iinc (v := x6 + 1) (lv' := [(6, .int (x6 + 1)), (0, .ref (ad 9)), (3, .int x3), (4, .int x4), (5, .int x5)]) hx hb dX7_plan_83 hl (k := 4) rfl rfl (by decide) rfl (fun ls hl => ?_)
      refine lv_goto (tgt := 54) hx hb dX7_plan_86 (by decide) ?_
      obtain rfl := Option.some.inj h
      exact hn _ rfl _ _ _ hw (lv_sub hl [1, 2, 3, 4, 0] rfl)
    · rw [if_pos t2] at h
      refine lv_iconst (v := 0) hx hb dX7_plan_66 (by decide) ?_
      refine lv_goto (tgt := 72) hx hb dX7_plan_67 (by decide) ?_
      refine lv_lconst (v := 1) hx hb dX7_plan_72 (by decide) ?_
      refine lv_iload_n hx hb dX7_plan_73 rfl (lv_at hl 1 rfl) ?_
      refine lv_iconst (v := 1) hx hb dX7_plan_74 (by decide) ?_
      refine lv_isub hx hb dX7_plan_75 ?_
      refine lv_iload hx hb dX7_plan_76 (lv_at hl 4 rfl) ?_
      refine lv_isub hx hb dX7_plan_78 ?_
      refine lv_lshl hx hb dX7_plan_79 rfl ?_
      obtain ⟨r5, e6, h⟩ := zbind h
      refine z_cVv (As := [.int (0 : Int32), .long ((1 : Int64) <<< (((x3 - (1 : Int32)) - x6).toInt64 &&& 63))]) (rest := []) ⟨hx, hb, hml, hown, hts⟩ hK hw hA (kX7_workMinute l D g ad σ (0 : Int32) ((1 : Int64) <<< (((x3 - (1 : Int32)) - x6).toInt64 &&& 63)) r5 e6) (zcwV 2 hts zgoodIn zw_691 zw_693 zw_17 zw_62 zw_694 rfl rfl hX7_workMinute ⟨Nat.le_of_ble_eq_true rfl, Nat.le_of_ble_eq_true rfl⟩) zO0_9 rfl hl.1 rfl (Nat.le_of_ble_eq_true rfl) dX7_plan_80 ⟨Nat.zero_le _, Nat.zero_le _⟩ (fun H locs hw => ?_)
      refine lv_iinc (v := x6 + 1) (lv' := [(6, .int (x6 + 1)), (0, .ref (ad 9)), (3, .int x3), (4, .int x4), (5, .int x5)]) hx hb dX7_plan_83 hl (k := 4) rfl rfl (by decide) rfl (fun ls hl => ?_)
      refine lv_goto (tgt := 54) hx hb dX7_plan_86 (by decide) ?_
      obtain rfl := Option.some.inj h
      exact hn _ rfl _ _ _ hw (lv_sub hl [1, 2, 3, 4, 0] rfl)
set_option maxHeartbeats 4000000 in
set_option maxRecDepth 100000 in
theorem wX7_plan_99 {p : Program} {l : Launch} {e : Env} {s : State} {m : MethodId} {args : Array Value} {below : List Frame} {meth : Method} {c : Code} {A : Nat → Prop} {H0 : Heap} {Q : State → Prop} {D : va_G} {g : zG} {ad : Nat → Nat} (C : zCx p c cX7_plan s args RX7 m 7 A H0 D g) (x5 : Int32) (n : Nat) (a : (Int32 × zSt)) (b : (Int32 × zSt)) (h : zLp (fun a => bX7_plan_99 x5 a.1 a.2) n a = some b) (hk : ∀ (H : Heap) (locs : List Loc) (ls : Array Slot), zH D g 0 ad A H0 b.2 H locs → lv_has ls 7 [(0, .ref (ad 9)), (5, .int x5), (6, .int b.1)] → W p l e (zRm 3) s m args below meth c H locs 0 0 Q (F0 m 131 ls [])) : ∀ (H : Heap) (locs : List Loc) (ls : Array Slot), zH D g 0 ad A H0 a.2 H locs → lv_has ls 7 [(0, .ref (ad 9)), (5, .int x5), (6, .int a.1)] → W p l e (zRm 3) s m args below meth c H locs 0 0 Q (F0 m 99 ls []) := by
  obtain ⟨hx, hb, hml, hown, hts, hK, hA⟩ := id C
  refine zLp_walk (P := fun (a : (Int32 × zSt)) => ∀ (H : Heap) (locs : List Loc) (ls : Array Slot), zH D g 0 ad A H0 a.2 H locs → lv_has ls 7 [(0, .ref (ad 9)), (5, .int x5), (6, .int a.1)] → W p l e (zRm 3) s m args below meth c H locs 0 0 Q (F0 m 99 ls [])) (E := fun (b' : (Int32 × zSt)) => b' = b) ?_ n a b h rfl
  intro a r h hn he H locs ls hw hl
  obtain ⟨x6, σ⟩ := a
  have h : bX7_plan_99 x5 x6 σ = some r := h
  have hl : lv_has ls 7 [(0, .ref (ad 9)), (5, .int x5), (6, .int x6)] := hl
  have hw : zH D g 0 ad A H0 σ H locs := hw
  unfold bX7_plan_99 at h
  refine lv_iload hx hb dX7_plan_99 (lv_at hl 2 rfl) ?_
  refine lv_sipush (v := 200) hx hb dX7_plan_101 (by decide) ?_
  refine lv_icmp_ge (tgt := 131) hx hb dX7_plan_104 (by decide) (fun t1 => ?_) (fun t1 => ?_)
  · rw [if_pos t1] at h
    obtain rfl := Option.some.inj h
    obtain rfl := he _ rfl
    exact hk _ _ _ hw (lv_sub hl [0, 1, 2] rfl)
  · rw [if_neg t1] at h
    refine lv_aload_n hx hb dX7_plan_107 rfl (lv_at hl 0 rfl) ?_
    refine lv_aload_n hx hb dX7_plan_108 rfl (lv_at hl 0 rfl) ?_
    refine z_getl hx hb hts zin_X7 hown hK hw zF0_9_3 (hts _ zw_267) dX7_plan_109 ?_
    refine lv_aload_n hx hb dX7_plan_112 rfl (lv_at hl 0 rfl) ?_
    refine z_getr hx hb hts zin_X7 hown hK hw zF0_9_0 (hts _ zw_264) dX7_plan_113 ?_
    refine lv_iload hx hb dX7_plan_116 (lv_at hl 2 rfl) ?_
    obtain ⟨v2, e3, h⟩ := zbind h
    refine z_lald hx hb hK hw e3 dX7_plan_118 ?_
    refine va_mmin_long hx hb (hml.trans hl.1.symm) hown (hts _ zw_712) (hts _ zw_713) (hts _ zw_65) (hts _ zw_714) (Nat.le_of_ble_eq_true rfl) (Nat.le_of_ble_eq_true rfl) (Nat.zero_le _) (Nat.zero_le _) dX7_plan_119 ?_
    refine z_putl hx hb hts zin_X7 tyX7_ok nmX7 hown hK hw zF0_9_3 (hts _ zw_267) zY0_9_3 dX7_plan_122 (fun H locs hw => ?_)
    refine lv_iinc (v := x6 + 1) (lv' := [(6, .int (x6 + 1)), (0, .ref (ad 9)), (5, .int x5)]) hx hb dX7_plan_125 hl (k := 2) rfl rfl (by decide) rfl (fun ls hl => ?_)
    refine lv_goto (tgt := 99) hx hb dX7_plan_128 (by decide) ?_
    obtain rfl := Option.some.inj h
    exact hn _ rfl _ _ _ hw (lv_sub hl [1, 2, 0] rfl)
theorem hX7_plan : yX7_plan.cls = RX7 ∧ yX7_plan.cls ≠ "java/lang/invoke/MethodHandle" ∧ yX7_plan.cls ≠ "java/lang/invoke/VarHandle" ∧ (parseMethodDescriptor yX7_plan.desc).map (fun d => d.parameters.length) = some 4 := by decide +kernel
set_option maxHeartbeats 4000000 in
set_option maxRecDepth 100000 in
theorem kX7_plan (l : Launch) (D : va_G) (g : zG) (ad : Nat → Nat) (σ : zSt) (x1 : Int32) (x2 : Int32) (x3 : Int32) (x4 : Int32) (o : zSt) (h : fX7_plan σ x1 x2 x3 x4 = some o) : zMv l D g 0 ad yX7_plan (Cond.code yX7_plan cX7_plan 7 (none : Option Jvm.ClassFile.FieldType) :: zws) (zRm 3) [.ref (ad 9), .int x1, .int x2, .int x3, .int x4] σ o := by
  refine z_enter_v (by decide) (Nat.le_of_ble_eq_true rfl) ?_
  intro p e s m below meth c A ls Q C hw hl hret
  obtain ⟨hx, hb, hml, hown, hts, hK, hA⟩ := id C
  have hown : s.vm.findClass RX7 = some m.cls := hown
  have C : zCx p c cX7_plan s _ RX7 m 7 A s.heap D g := C
  have hl : lv_has ls 7 [(0, .ref (ad 9)), (1, .int x1), (2, .int x2), (3, .int x3), (4, .int x4)] := hl
  unfold fX7_plan at h
  refine lv_iload_n hx hb dX7_plan_0 rfl (lv_at hl 1 rfl) ?_
  refine lv_bipush (v := 10) hx hb dX7_plan_1 (by decide) ?_
  refine lv_imul hx hb dX7_plan_3 ?_
  refine lv_iload_n hx hb dX7_plan_4 rfl (lv_at hl 2 rfl) ?_
  refine lv_iadd hx hb dX7_plan_5 ?_
  refine lv_bipush (v := 10) hx hb dX7_plan_6 (by decide) ?_
  refine lv_imul hx hb dX7_plan_8 ?_
  refine lv_iload hx hb dX7_plan_9 (lv_at hl 4 rfl) ?_
  refine lv_iadd hx hb dX7_plan_11 ?_
  refine lv_bipush (v := 41) hx hb dX7_plan_12 (by decide) ?_
  refine lv_imul hx hb dX7_plan_14 ?_
  refine lv_iload_n hx hb dX7_plan_15 rfl (lv_at hl 3 rfl) ?_
  refine lv_iadd hx hb dX7_plan_16 ?_
  refine lv_istore (lv' := [(5, .int ((((((x1 * (10 : Int32)) + x2) * (10 : Int32)) + x4) * (41 : Int32)) + x3)), (0, .ref (ad 9)), (1, .int x1), (2, .int x2), (3, .int x3), (4, .int x4)]) hx hb dX7_plan_17 hl (by decide) rfl (fun ls hl => ?_)
  refine lv_iload hx hb dX7_plan_19 (lv_at hl 0 rfl) ?_
  refine lv_aload_n hx hb dX7_plan_21 rfl (lv_at hl 1 rfl) ?_
  refine z_geti hx hb hts zin_X7 hown hK hw zF0_9_2 (hts _ zw_266) dX7_plan_22 ?_
  refine lv_icmp_ne (tgt := 29) hx hb dX7_plan_25 (by decide) (fun t1 => ?_) (fun t1 => ?_)
  · rw [if_neg t1] at h
    refine lv_aload_n hx hb dX7_plan_29 rfl (lv_at hl 1 rfl) ?_
    refine z_getr hx hb hts zin_X7 hown hK hw zF0_9_0 (hts _ zw_264) dX7_plan_30 ?_
    refine lv_ldc2 hx hb hown (hts _ zw_686) dX7_plan_33 ?_
    obtain ⟨r2, e3, h⟩ := zbind h
    refine z_cSv (As := [.ref (ad (zR σ 9 0)), .long (9223372036854775807 : Int64)]) (rest := []) ⟨hx, hb, hml, hown, hts⟩ hK hw hA (kJ7_fill_d0a16 l D g ad σ (zR σ 9 0) (9223372036854775807 : Int64) r2 e3) (zcwS 2 hts zgoodIn zw_687 zw_483 zw_54 zw_484 rfl rfl hJ7_fill_d0a16 ⟨Nat.le_of_ble_eq_true rfl, Nat.le_of_ble_eq_true rfl⟩) rfl hl.1 rfl (Nat.le_of_ble_eq_true rfl) dX7_plan_36 ⟨Nat.zero_le _, Nat.zero_le _⟩ (fun H locs hw => ?_)
    refine lv_aload_n hx hb dX7_plan_39 rfl (lv_at hl 1 rfl) ?_
    refine z_getr hx hb hts zin_X7 hown hK hw zF0_9_0 (hts _ zw_264) dX7_plan_40 ?_
    refine lv_iload_n hx hb dX7_plan_43 rfl (lv_at hl 2 rfl) ?_
    refine lv_iload_n hx hb dX7_plan_44 rfl (lv_at hl 3 rfl) ?_
    refine lv_iconst (v := 0) hx hb dX7_plan_45 (by decide) ?_
    refine z_cSi (As := [.int x1, .int x2, .int (0 : Int32)]) (rest := [.ref (ad (zR r2 9 0))]) ⟨hx, hb, hml, hown, hts⟩ hK hw hA (kX7_stateOf l D g ad r2 x1 x2 (0 : Int32) _ rfl) (zcwS 3 hts zgoodIn zw_688 zw_689 zw_62 zw_690 rfl rfl hX7_stateOf ⟨Nat.le_of_ble_eq_true rfl, Nat.le_of_ble_eq_true rfl⟩) rfl hl.1 rfl (Nat.le_of_ble_eq_true rfl) dX7_plan_46 ⟨Nat.zero_le _, Nat.zero_le _⟩ (fun H locs hw => ?_)
    refine lv_lconst (v := 0) hx hb dX7_plan_49 (by decide) ?_
    obtain ⟨s4, e5, h⟩ := zbind h
    refine z_last hx hb hK hw e5 dX7_plan_50 (fun H locs hw => ?_)
    refine lv_iconst (v := 0) hx hb dX7_plan_51 (by decide) ?_
    refine lv_istore (lv' := [(6, .int (0 : Int32)), (5, .int ((((((x1 * (10 : Int32)) + x2) * (10 : Int32)) + x4) * (41 : Int32)) + x3)), (0, .ref (ad 9)), (1, .int x1), (2, .int x2), (3, .int x3), (4, .int x4)]) hx hb dX7_plan_52 hl (by decide) rfl (fun ls hl => ?_)
    obtain ⟨b6, e7, h⟩ := zbind h
    refine wX7_plan_54 C x3 x4 ((((((x1 * (10 : Int32)) + x2) * (10 : Int32)) + x4) * (41 : Int32)) + x3) zFU ((0 : Int32), s4) b6 e7 (fun H locs ls hw hl => ?_) _ _ _ hw (lv_sub hl [2, 5, 6, 1, 0] rfl)
    have hl : lv_has ls 7 [(0, .ref (ad 9)), (3, .int x3), (4, .int x4), (5, .int ((((((x1 * (10 : Int32)) + x2) * (10 : Int32)) + x4) * (41 : Int32)) + x3)), (6, .int b6.1)] := hl
    refine lv_aload_n hx hb dX7_plan_89 rfl (lv_at hl 0 rfl) ?_
    refine lv_ldc2 hx hb hown (hts _ zw_686) dX7_plan_90 ?_
    refine z_putl hx hb hts zin_X7 tyX7_ok nmX7 hown hK hw zF0_9_3 (hts _ zw_267) zY0_9_3 dX7_plan_93 (fun H locs hw => ?_)
    refine lv_iconst (v := 0) hx hb dX7_plan_96 (by decide) ?_
    refine lv_istore (lv' := [(6, .int (0 : Int32)), (0, .ref (ad 9)), (3, .int x3), (4, .int x4), (5, .int ((((((x1 * (10 : Int32)) + x2) * (10 : Int32)) + x4) * (41 : Int32)) + x3))]) hx hb dX7_plan_97 hl (by decide) rfl (fun ls hl => ?_)
    obtain ⟨b8, e9, h⟩ := zbind h
    refine wX7_plan_99 C ((((((x1 * (10 : Int32)) + x2) * (10 : Int32)) + x4) * (41 : Int32)) + x3) zFU ((0 : Int32), zwJ b6.2 9 3 (9223372036854775807 : Int64)) b8 e9 (fun H locs ls hw hl => ?_) _ _ _ hw (lv_sub hl [1, 4, 0] rfl)
    have hl : lv_has ls 7 [(0, .ref (ad 9)), (5, .int ((((((x1 * (10 : Int32)) + x2) * (10 : Int32)) + x4) * (41 : Int32)) + x3)), (6, .int b8.1)] := hl
    refine lv_aload_n hx hb dX7_plan_131 rfl (lv_at hl 0 rfl) ?_
    refine lv_iload hx hb dX7_plan_132 (lv_at hl 1 rfl) ?_
    refine z_puti hx hb hts zin_X7 tyX7_ok nmX7 hown hK hw zF0_9_2 (hts _ zw_266) zY0_9_2 dX7_plan_134 (fun H locs hw => ?_)
    obtain rfl := Option.some.inj h
    exact hret _ _ _ _ hw dX7_plan_137
  · rw [if_pos t1] at h
    obtain rfl := Option.some.inj h
    exact hret _ _ _ _ hw dX7_plan_28
theorem hX7_cost : yX7_cost.cls = RX7 ∧ yX7_cost.cls ≠ "java/lang/invoke/MethodHandle" ∧ yX7_cost.cls ≠ "java/lang/invoke/VarHandle" ∧ (parseMethodDescriptor yX7_cost.desc).map (fun d => d.parameters.length) = some 0 := by decide +kernel
set_option maxHeartbeats 4000000 in
set_option maxRecDepth 100000 in
theorem kX7_cost (l : Launch) (D : va_G) (g : zG) (ad : Nat → Nat) (σ : zSt) (o : Int32) (h : fX7_cost σ = o) : zMi l D g 0 ad yX7_cost (Cond.code yX7_cost cX7_cost 1 (some .int) :: zws) (zRm 0) [.ref (ad 9)] σ o σ := by
  refine z_enter_i (by decide) (Nat.le_of_ble_eq_true rfl) ?_
  intro p e s m below meth c A ls Q C hw hl hret
  obtain ⟨hx, hb, hml, hown, hts, hK, hA⟩ := id C
  have hown : s.vm.findClass RX7 = some m.cls := hown
  have C : zCx p c cX7_cost s _ RX7 m 1 A s.heap D g := C
  have hl : lv_has ls 1 [(0, .ref (ad 9))] := hl
  unfold fX7_cost at h
  refine lv_aload_n hx hb dX7_cost_0 rfl (lv_at hl 0 rfl) ?_
  refine z_getl hx hb hts zin_X7 hown hK hw zF0_9_3 (hts _ zw_267) dX7_cost_1 ?_
  refine lv_bipush (v := 40) hx hb dX7_cost_4 (by decide) ?_
  refine lv_lshr hx hb dX7_cost_6 rfl ?_
  refine lv_l2i hx hb dX7_cost_7 rfl ?_
  subst h
  exact hret _ _ _ _ hw rfl dX7_cost_8
theorem hX7_worker : yX7_worker.cls = RX7 ∧ yX7_worker.cls ≠ "java/lang/invoke/MethodHandle" ∧ yX7_worker.cls ≠ "java/lang/invoke/VarHandle" ∧ (parseMethodDescriptor yX7_worker.desc).map (fun d => d.parameters.length) = some 2 := by decide +kernel
set_option maxHeartbeats 4000000 in
set_option maxRecDepth 100000 in
theorem kX7_worker (l : Launch) (D : va_G) (g : zG) (ad : Nat → Nat) (σ : zSt) (x1 : Int32) (x2 : Int32) (o : Int32) (h : fX7_worker σ x1 x2 = o) : zMi l D g 0 ad yX7_worker (Cond.code yX7_worker cX7_worker 3 (some .int) :: zws) (zRm 0) [.ref (ad 9), .int x1, .int x2] σ o σ := by
  refine z_enter_i (by decide) (Nat.le_of_ble_eq_true rfl) ?_
  intro p e s m below meth c A ls Q C hw hl hret
  obtain ⟨hx, hb, hml, hown, hts, hK, hA⟩ := id C
  have hown : s.vm.findClass RX7 = some m.cls := hown
  have C : zCx p c cX7_worker s _ RX7 m 3 A s.heap D g := C
  have hl : lv_has ls 3 [(0, .ref (ad 9)), (1, .int x1), (2, .int x2)] := hl
  unfold fX7_worker at h
  refine lv_aload_n hx hb dX7_worker_0 rfl (lv_at hl 0 rfl) ?_
  refine z_getl hx hb hts zin_X7 hown hK hw zF0_9_3 (hts _ zw_267) dX7_worker_1 ?_
  refine lv_iload_n hx hb dX7_worker_4 rfl (lv_at hl 2 rfl) ?_
  refine lv_iconst (v := 1) hx hb dX7_worker_5 (by decide) ?_
  refine lv_isub hx hb dX7_worker_6 ?_
  refine lv_iload_n hx hb dX7_worker_7 rfl (lv_at hl 1 rfl) ?_
  refine lv_isub hx hb dX7_worker_8 ?_
  refine lv_lshr hx hb dX7_worker_9 rfl ?_
  refine lv_lconst (v := 1) hx hb dX7_worker_10 (by decide) ?_
  refine lv_land hx hb dX7_worker_11 ?_
  refine lv_l2i hx hb dX7_worker_12 rfl ?_
  subst h
  exact hret _ _ _ _ hw rfl dX7_worker_13
set_option maxHeartbeats 4000000 in
set_option maxRecDepth 100000 in
theorem wX8_takeWord_9 {p : Program} {l : Launch} {e : Env} {s : State} {m : MethodId} {args : Array Value} {below : List Frame} {meth : Method} {c : Code} {A : Nat → Prop} {H0 : Heap} {Q : State → Prop} {D : va_G} {g : zG} {ad : Nat → Nat} (C : zCx p c cX8_takeWord s args RX8 m 6 A H0 D g) (x1 : Nat) (x2 : Int32) (n : Nat) (a : (Int32 × Int32 × Int32 × zSt)) (b : (Int32 × Int32 × Int32 × zSt)) (h : zLp (fun a => bX8_takeWord_9 x1 x2 a.1 a.2.1 a.2.2.1 a.2.2.2) n a = some b) (hk : ∀ (H : Heap) (locs : List Loc) (ls : Array Slot), zH D g 0 ad A H0 b.2.2.2 H locs → lv_has ls 6 [(0, .ref (ad 3)), (1, .ref (ad x1)), (2, .int x2), (3, .int b.1), (4, .int b.2.1), (5, .int b.2.2.1)] → W p l e (zRm 0) s m args below meth c H locs 0 0 Q (F0 m 59 ls [])) : ∀ (H : Heap) (locs : List Loc) (ls : Array Slot), zH D g 0 ad A H0 a.2.2.2 H locs → lv_has ls 6 [(0, .ref (ad 3)), (1, .ref (ad x1)), (2, .int x2), (3, .int a.1), (4, .int a.2.1), (5, .int a.2.2.1)] → W p l e (zRm 0) s m args below meth c H locs 0 0 Q (F0 m 9 ls []) := by
  obtain ⟨hx, hb, hml, hown, hts, hK, hA⟩ := id C
  refine zLp_walk (P := fun (a : (Int32 × Int32 × Int32 × zSt)) => ∀ (H : Heap) (locs : List Loc) (ls : Array Slot), zH D g 0 ad A H0 a.2.2.2 H locs → lv_has ls 6 [(0, .ref (ad 3)), (1, .ref (ad x1)), (2, .int x2), (3, .int a.1), (4, .int a.2.1), (5, .int a.2.2.1)] → W p l e (zRm 0) s m args below meth c H locs 0 0 Q (F0 m 9 ls [])) (E := fun (b' : (Int32 × Int32 × Int32 × zSt)) => b' = b) ?_ n a b h rfl
  intro a r h hn he H locs ls hw hl
  obtain ⟨x3, x4, x5, σ⟩ := a
  have h : bX8_takeWord_9 x1 x2 x3 x4 x5 σ = some r := h
  have hl : lv_has ls 6 [(0, .ref (ad 3)), (1, .ref (ad x1)), (2, .int x2), (3, .int x3), (4, .int x4), (5, .int x5)] := hl
  have hw : zH D g 0 ad A H0 σ H locs := hw
  unfold bX8_takeWord_9 at h
  refine lv_iload hx hb dX8_takeWord_9 (lv_at hl 5 rfl) ?_
  refine lv_aload_n hx hb dX8_takeWord_11 rfl (lv_at hl 0 rfl) ?_
  refine z_geti hx hb hts zin_X8 hown hK hw zF0_3_0 (hts _ zw_137) dX8_takeWord_12 ?_
  refine lv_icmp_ge (tgt := 59) hx hb dX8_takeWord_15 (by decide) (fun t1 => ?_) (fun t1 => ?_)
  · rw [if_pos t1] at h
    obtain rfl := Option.some.inj h
    obtain rfl := he _ rfl
    exact hk _ _ _ hw (lv_sub hl [0, 1, 2, 3, 4, 5] rfl)
  · rw [if_neg t1] at h
    refine lv_aload_n hx hb dX8_takeWord_18 rfl (lv_at hl 0 rfl) ?_
    refine z_getc hx hb hts zin_X8 hown hK hw zF0_3_1 (hts _ zw_141) dX8_takeWord_19 ?_
    refine lv_iload_n hx hb dX8_takeWord_22 rfl (lv_at hl 2 rfl) ?_
    obtain ⟨q2, e3, h⟩ := zbind h
    refine z_aald hx hb hK hw e3 dX8_takeWord_23 ?_
    refine lv_iload hx hb dX8_takeWord_24 (lv_at hl 5 rfl) ?_
    refine lv_aload_n hx hb dX8_takeWord_26 rfl (lv_at hl 1 rfl) ?_
    refine lv_iload hx hb dX8_takeWord_27 (lv_at hl 5 rfl) ?_
    obtain ⟨v4, e5, h⟩ := zbind h
    refine z_iald hx hb hK hw e5 dX8_takeWord_29 ?_
    obtain ⟨s6, e7, h⟩ := zbind h
    refine z_iast hx hb hK hw e7 dX8_takeWord_30 (fun H locs hw => ?_)
    refine lv_iload_n hx hb dX8_takeWord_31 rfl (lv_at hl 3 rfl) ?_
    refine lv_aload_n hx hb dX8_takeWord_32 rfl (lv_at hl 1 rfl) ?_
    refine lv_iload hx hb dX8_takeWord_33 (lv_at hl 5 rfl) ?_
    obtain ⟨v8, e9, h⟩ := zbind h
    refine z_iald hx hb hK hw e9 dX8_takeWord_35 ?_
    refine lv_isub hx hb dX8_takeWord_36 ?_
    refine lv_istore_n (lv' := [(3, .int (x3 - v8)), (0, .ref (ad 3)), (1, .ref (ad x1)), (2, .int x2), (4, .int x4), (5, .int x5)]) hx hb dX8_takeWord_37 rfl hl (by decide) rfl (fun ls hl => ?_)
    refine lv_aload_n hx hb dX8_takeWord_38 rfl (lv_at hl 2 rfl) ?_
    refine lv_iload hx hb dX8_takeWord_39 (lv_at hl 5 rfl) ?_
    obtain ⟨v10, e11, h⟩ := zbind h
    refine z_iald hx hb hK hw e11 dX8_takeWord_41 ?_
    refine lv_aload_n hx hb dX8_takeWord_42 rfl (lv_at hl 2 rfl) ?_
    refine lv_iload hx hb dX8_takeWord_43 (lv_at hl 4 rfl) ?_
    obtain ⟨v12, e13, h⟩ := zbind h
    refine z_iald hx hb hK hw e13 dX8_takeWord_45 ?_
    refine lv_icmp_le (tgt := 53) hx hb dX8_takeWord_46 (by decide) (fun t14 => ?_) (fun t14 => ?_)
    · rw [if_pos t14] at h
      refine lv_iinc (v := x5 + 1) (lv' := [(5, .int (x5 + 1)), (3, .int (x3 - v8)), (0, .ref (ad 3)), (1, .ref (ad x1)), (2, .int x2), (4, .int x4)]) hx hb dX8_takeWord_53 hl (k := 5) rfl rfl (by decide) rfl (fun ls hl => ?_)
      refine lv_goto (tgt := 9) hx hb dX8_takeWord_56 (by decide) ?_
      obtain rfl := Option.some.inj h
      exact hn _ rfl _ _ _ hw (lv_sub hl [2, 3, 4, 1, 5, 0] rfl)
    · rw [if_neg t14] at h
      refine lv_iload hx hb dX8_takeWord_49 (lv_at hl 5 rfl) ?_
      refine lv_istore (lv' := [(4, .int x5), (3, .int (x3 - v8)), (0, .ref (ad 3)), (1, .ref (ad x1)), (2, .int x2), (5, .int x5)]) hx hb dX8_takeWord_51 hl (by decide) rfl (fun ls hl => ?_)
      refine lv_iinc (v := x5 + 1) (lv' := [(5, .int (x5 + 1)), (4, .int x5), (3, .int (x3 - v8)), (0, .ref (ad 3)), (1, .ref (ad x1)), (2, .int x2)]) hx hb dX8_takeWord_53 hl (k := 5) rfl rfl (by decide) rfl (fun ls hl => ?_)
      refine lv_goto (tgt := 9) hx hb dX8_takeWord_56 (by decide) ?_
      obtain rfl := Option.some.inj h
      exact hn _ rfl _ _ _ hw (lv_sub hl [3, 4, 5, 2, 1, 0] rfl)
theorem hX8_takeWord : yX8_takeWord.cls = RX8 ∧ yX8_takeWord.cls ≠ "java/lang/invoke/MethodHandle" ∧ yX8_takeWord.cls ≠ "java/lang/invoke/VarHandle" ∧ (parseMethodDescriptor yX8_takeWord.desc).map (fun d => d.parameters.length) = some 2 := by decide +kernel
set_option maxHeartbeats 4000000 in
set_option maxRecDepth 100000 in
theorem kX8_takeWord (l : Launch) (D : va_G) (g : zG) (ad : Nat → Nat) (σ : zSt) (x1 : Nat) (x2 : Int32) (o : zSt) (h : fX8_takeWord σ x1 x2 = some o) : zMv l D g 0 ad yX8_takeWord (Cond.code yX8_takeWord cX8_takeWord 6 (none : Option Jvm.ClassFile.FieldType) :: zws) (zRm 0) [.ref (ad 3), .ref (ad x1), .int x2] σ o := by
  refine z_enter_v (by decide) (Nat.le_of_ble_eq_true rfl) ?_
  intro p e s m below meth c A ls Q C hw hl hret
  obtain ⟨hx, hb, hml, hown, hts, hK, hA⟩ := id C
  have hown : s.vm.findClass RX8 = some m.cls := hown
  have C : zCx p c cX8_takeWord s _ RX8 m 6 A s.heap D g := C
  have hl : lv_has ls 6 [(0, .ref (ad 3)), (1, .ref (ad x1)), (2, .int x2)] := hl
  unfold fX8_takeWord at h
  refine lv_bipush (v := 12) hx hb dX8_takeWord_0 (by decide) ?_
  refine lv_istore_n (lv' := [(3, .int (12 : Int32)), (0, .ref (ad 3)), (1, .ref (ad x1)), (2, .int x2)]) hx hb dX8_takeWord_2 rfl hl (by decide) rfl (fun ls hl => ?_)
  refine lv_iconst (v := 0) hx hb dX8_takeWord_3 (by decide) ?_
  refine lv_istore (lv' := [(4, .int (0 : Int32)), (3, .int (12 : Int32)), (0, .ref (ad 3)), (1, .ref (ad x1)), (2, .int x2)]) hx hb dX8_takeWord_4 hl (by decide) rfl (fun ls hl => ?_)
  refine lv_iconst (v := 0) hx hb dX8_takeWord_6 (by decide) ?_
  refine lv_istore (lv' := [(5, .int (0 : Int32)), (4, .int (0 : Int32)), (3, .int (12 : Int32)), (0, .ref (ad 3)), (1, .ref (ad x1)), (2, .int x2)]) hx hb dX8_takeWord_7 hl (by decide) rfl (fun ls hl => ?_)
  obtain ⟨b1, e2, h⟩ := zbind h
  refine wX8_takeWord_9 C x1 x2 zFU ((12 : Int32), (0 : Int32), (0 : Int32), σ) b1 e2 (fun H locs ls hw hl => ?_) _ _ _ hw (lv_sub hl [3, 4, 5, 2, 1, 0] rfl)
  have hl : lv_has ls 6 [(0, .ref (ad 3)), (1, .ref (ad x1)), (2, .int x2), (3, .int b1.1), (4, .int b1.2.1), (5, .int b1.2.2.1)] := hl
  refine lv_aload_n hx hb dX8_takeWord_59 rfl (lv_at hl 0 rfl) ?_
  refine z_getc hx hb hts zin_X8 hown hK hw zF0_3_1 (hts _ zw_141) dX8_takeWord_60 ?_
  refine lv_iload_n hx hb dX8_takeWord_63 rfl (lv_at hl 2 rfl) ?_
  obtain ⟨q3, e4, h⟩ := zbind h
  refine z_aald hx hb hK hw e4 dX8_takeWord_64 ?_
  refine lv_aload_n hx hb dX8_takeWord_65 rfl (lv_at hl 0 rfl) ?_
  refine z_geti hx hb hts zin_X8 hown hK hw zF0_3_0 (hts _ zw_137) dX8_takeWord_66 ?_
  refine lv_iload_n hx hb dX8_takeWord_69 rfl (lv_at hl 3 rfl) ?_
  obtain ⟨s5, e6, h⟩ := zbind h
  refine z_iast hx hb hK hw e6 dX8_takeWord_70 (fun H locs hw => ?_)
  refine lv_aload_n hx hb dX8_takeWord_71 rfl (lv_at hl 0 rfl) ?_
  refine z_getc hx hb hts zin_X8 hown hK hw zF0_3_2 (hts _ zw_142) dX8_takeWord_72 ?_
  refine lv_iload_n hx hb dX8_takeWord_75 rfl (lv_at hl 2 rfl) ?_
  refine lv_iload hx hb dX8_takeWord_76 (lv_at hl 4 rfl) ?_
  obtain ⟨s7, e8, h⟩ := zbind h
  refine z_iast hx hb hK hw e8 dX8_takeWord_78 (fun H locs hw => ?_)
  obtain rfl := Option.some.inj h
  exact hret _ _ _ _ hw dX8_takeWord_79
set_option maxHeartbeats 4000000 in
set_option maxRecDepth 100000 in
theorem wX8_take_15 {p : Program} {l : Launch} {e : Env} {s : State} {m : MethodId} {args : Array Value} {below : List Frame} {meth : Method} {c : Code} {A : Nat → Prop} {H0 : Heap} {Q : State → Prop} {D : va_G} {g : zG} {ad : Nat → Nat} (C : zCx p c cX8_take s args RX8 m 5 A H0 D g) (x1 : Nat) (x2 : Int32) (x3 : Int32) (n : Nat) (a : (Int32 × zSt)) (b : (Int32 × zSt)) (h : zLp (fun a => bX8_take_15 x1 x2 x3 a.1 a.2) n a = some b) (hk : ∀ (H : Heap) (locs : List Loc) (ls : Array Slot), zH D g 0 ad A H0 b.2 H locs → lv_has ls 5 [(0, .ref (ad 3)), (1, .ref (ad x1)), (2, .int x2), (3, .int x3), (4, .int b.1)] → W p l e (zRm 1) s m args below meth c H locs 0 0 Q (F0 m 47 ls [])) : ∀ (H : Heap) (locs : List Loc) (ls : Array Slot), zH D g 0 ad A H0 a.2 H locs → lv_has ls 5 [(0, .ref (ad 3)), (1, .ref (ad x1)), (2, .int x2), (3, .int x3), (4, .int a.1)] → W p l e (zRm 1) s m args below meth c H locs 0 0 Q (F0 m 15 ls []) := by
  obtain ⟨hx, hb, hml, hown, hts, hK, hA⟩ := id C
  refine zLp_walk (P := fun (a : (Int32 × zSt)) => ∀ (H : Heap) (locs : List Loc) (ls : Array Slot), zH D g 0 ad A H0 a.2 H locs → lv_has ls 5 [(0, .ref (ad 3)), (1, .ref (ad x1)), (2, .int x2), (3, .int x3), (4, .int a.1)] → W p l e (zRm 1) s m args below meth c H locs 0 0 Q (F0 m 15 ls [])) (E := fun (b' : (Int32 × zSt)) => b' = b) ?_ n a b h rfl
  intro a r h hn he H locs ls hw hl
  obtain ⟨x4, σ⟩ := a
  have h : bX8_take_15 x1 x2 x3 x4 σ = some r := h
  have hl : lv_has ls 5 [(0, .ref (ad 3)), (1, .ref (ad x1)), (2, .int x2), (3, .int x3), (4, .int x4)] := hl
  have hw : zH D g 0 ad A H0 σ H locs := hw
  unfold bX8_take_15 at h
  refine lv_iload hx hb dX8_take_15 (lv_at hl 4 rfl) ?_
  refine lv_iload_n hx hb dX8_take_17 rfl (lv_at hl 2 rfl) ?_
  refine lv_icmp_ge (tgt := 47) hx hb dX8_take_18 (by decide) (fun t1 => ?_) (fun t1 => ?_)
  · rw [if_pos t1] at h
    obtain rfl := Option.some.inj h
    obtain rfl := he _ rfl
    exact hk _ _ _ hw (lv_sub hl [0, 1, 2, 3, 4] rfl)
  · rw [if_neg t1] at h
    refine lv_aload_n hx hb dX8_take_21 rfl (lv_at hl 0 rfl) ?_
    refine lv_aload_n hx hb dX8_take_22 rfl (lv_at hl 1 rfl) ?_
    refine lv_iload_n hx hb dX8_take_23 rfl (lv_at hl 3 rfl) ?_
    refine lv_bipush (v := 6) hx hb dX8_take_24 (by decide) ?_
    refine lv_imul hx hb dX8_take_26 ?_
    refine lv_iload hx hb dX8_take_27 (lv_at hl 4 rfl) ?_
    refine lv_iadd hx hb dX8_take_29 ?_
    obtain ⟨q2, e3, h⟩ := zbind h
    refine z_aald hx hb hK hw e3 dX8_take_30 ?_
    refine lv_iload_n hx hb dX8_take_31 rfl (lv_at hl 3 rfl) ?_
    refine lv_bipush (v := 6) hx hb dX8_take_32 (by decide) ?_
    refine lv_imul hx hb dX8_take_34 ?_
    refine lv_iload hx hb dX8_take_35 (lv_at hl 4 rfl) ?_
    refine lv_iadd hx hb dX8_take_37 ?_
    obtain ⟨r4, e5, h⟩ := zbind h
    refine z_cVv (As := [.ref (ad q2), .int ((x3 * (6 : Int32)) + x4)]) (rest := []) ⟨hx, hb, hml, hown, hts⟩ hK hw hA (kX8_takeWord l D g ad σ q2 ((x3 * (6 : Int32)) + x4) r4 e5) (zcwV 2 hts zgoodIn zw_396 zw_398 zw_7 zw_56 zw_399 rfl rfl hX8_takeWord ⟨Nat.le_of_ble_eq_true rfl, Nat.le_of_ble_eq_true rfl⟩) zO0_3 rfl hl.1 rfl (Nat.le_of_ble_eq_true rfl) dX8_take_38 ⟨Nat.zero_le _, Nat.zero_le _⟩ (fun H locs hw => ?_)
    refine lv_iinc (v := x4 + 1) (lv' := [(4, .int (x4 + 1)), (0, .ref (ad 3)), (1, .ref (ad x1)), (2, .int x2), (3, .int x3)]) hx hb dX8_take_41 hl (k := 4) rfl rfl (by decide) rfl (fun ls hl => ?_)
    refine lv_goto (tgt := 15) hx hb dX8_take_44 (by decide) ?_
    obtain rfl := Option.some.inj h
    exact hn _ rfl _ _ _ hw (lv_sub hl [1, 2, 3, 4, 0] rfl)
set_option maxHeartbeats 4000000 in
set_option maxRecDepth 100000 in
theorem wX8_take_7 {p : Program} {l : Launch} {e : Env} {s : State} {m : MethodId} {args : Array Value} {below : List Frame} {meth : Method} {c : Code} {A : Nat → Prop} {H0 : Heap} {Q : State → Prop} {D : va_G} {g : zG} {ad : Nat → Nat} (C : zCx p c cX8_take s args RX8 m 5 A H0 D g) (x1 : Nat) (x2 : Int32) (n : Nat) (a : (Int32 × zSt)) (b : (Int32 × zSt)) (h : zLp (fun a => bX8_take_7 x1 x2 a.1 a.2) n a = some b) (hk : ∀ (H : Heap) (locs : List Loc) (ls : Array Slot), zH D g 0 ad A H0 b.2 H locs → lv_has ls 5 [(0, .ref (ad 3)), (1, .ref (ad x1)), (2, .int x2), (3, .int b.1)] → W p l e (zRm 1) s m args below meth c H locs 0 0 Q (F0 m 53 ls [])) : ∀ (H : Heap) (locs : List Loc) (ls : Array Slot), zH D g 0 ad A H0 a.2 H locs → lv_has ls 5 [(0, .ref (ad 3)), (1, .ref (ad x1)), (2, .int x2), (3, .int a.1)] → W p l e (zRm 1) s m args below meth c H locs 0 0 Q (F0 m 7 ls []) := by
  obtain ⟨hx, hb, hml, hown, hts, hK, hA⟩ := id C
  refine zLp_walk (P := fun (a : (Int32 × zSt)) => ∀ (H : Heap) (locs : List Loc) (ls : Array Slot), zH D g 0 ad A H0 a.2 H locs → lv_has ls 5 [(0, .ref (ad 3)), (1, .ref (ad x1)), (2, .int x2), (3, .int a.1)] → W p l e (zRm 1) s m args below meth c H locs 0 0 Q (F0 m 7 ls [])) (E := fun (b' : (Int32 × zSt)) => b' = b) ?_ n a b h rfl
  intro a r h hn he H locs ls hw hl
  obtain ⟨x3, σ⟩ := a
  have h : bX8_take_7 x1 x2 x3 σ = some r := h
  have hl : lv_has ls 5 [(0, .ref (ad 3)), (1, .ref (ad x1)), (2, .int x2), (3, .int x3)] := hl
  have hw : zH D g 0 ad A H0 σ H locs := hw
  unfold bX8_take_7 at h
  refine lv_iload_n hx hb dX8_take_7 rfl (lv_at hl 3 rfl) ?_
  refine lv_iconst (v := 2) hx hb dX8_take_8 (by decide) ?_
  refine lv_icmp_ge (tgt := 53) hx hb dX8_take_9 (by decide) (fun t1 => ?_) (fun t1 => ?_)
  · rw [if_pos t1] at h
    obtain rfl := Option.some.inj h
    obtain rfl := he _ rfl
    exact hk _ _ _ hw (lv_sub hl [0, 1, 2, 3] rfl)
  · rw [if_neg t1] at h
    refine lv_iconst (v := 0) hx hb dX8_take_12 (by decide) ?_
    refine lv_istore (lv' := [(4, .int (0 : Int32)), (0, .ref (ad 3)), (1, .ref (ad x1)), (2, .int x2), (3, .int x3)]) hx hb dX8_take_13 hl (by decide) rfl (fun ls hl => ?_)
    obtain ⟨b2, e3, h⟩ := zbind h
    refine wX8_take_15 C x1 x2 x3 zFU ((0 : Int32), σ) b2 e3 (fun H locs ls hw hl => ?_) _ _ _ hw (lv_sub hl [1, 2, 3, 4, 0] rfl)
    have hl : lv_has ls 5 [(0, .ref (ad 3)), (1, .ref (ad x1)), (2, .int x2), (3, .int x3), (4, .int b2.1)] := hl
    refine lv_iinc (v := x3 + 1) (lv' := [(3, .int (x3 + 1)), (0, .ref (ad 3)), (1, .ref (ad x1)), (2, .int x2), (4, .int b2.1)]) hx hb dX8_take_47 hl (k := 3) rfl rfl (by decide) rfl (fun ls hl => ?_)
    refine lv_goto (tgt := 7) hx hb dX8_take_50 (by decide) ?_
    obtain rfl := Option.some.inj h
    exact hn _ rfl _ _ _ hw (lv_sub hl [1, 2, 3, 0] rfl)
theorem hX8_take : yX8_take.cls = RX8 ∧ yX8_take.cls ≠ "java/lang/invoke/MethodHandle" ∧ yX8_take.cls ≠ "java/lang/invoke/VarHandle" ∧ (parseMethodDescriptor yX8_take.desc).map (fun d => d.parameters.length) = some 2 := by decide +kernel
set_option maxHeartbeats 4000000 in
set_option maxRecDepth 100000 in
theorem kX8_take (l : Launch) (D : va_G) (g : zG) (ad : Nat → Nat) (σ : zSt) (x1 : Nat) (x2 : Int32) (o : zSt) (h : fX8_take σ x1 x2 = some o) : zMv l D g 0 ad yX8_take (Cond.code yX8_take cX8_take 5 (none : Option Jvm.ClassFile.FieldType) :: zws) (zRm 1) [.ref (ad 3), .ref (ad x1), .int x2] σ o := by
  refine z_enter_v (by decide) (Nat.le_of_ble_eq_true rfl) ?_
  intro p e s m below meth c A ls Q C hw hl hret
  obtain ⟨hx, hb, hml, hown, hts, hK, hA⟩ := id C
  have hown : s.vm.findClass RX8 = some m.cls := hown
  have C : zCx p c cX8_take s _ RX8 m 5 A s.heap D g := C
  have hl : lv_has ls 5 [(0, .ref (ad 3)), (1, .ref (ad x1)), (2, .int x2)] := hl
  unfold fX8_take at h
  refine lv_aload_n hx hb dX8_take_0 rfl (lv_at hl 0 rfl) ?_
  refine lv_iload_n hx hb dX8_take_1 rfl (lv_at hl 2 rfl) ?_
  refine z_puti hx hb hts zin_X8 tyX8_ok nmX8 hown hK hw zF0_3_0 (hts _ zw_137) zY0_3_0 dX8_take_2 (fun H locs hw => ?_)
  refine lv_iconst (v := 0) hx hb dX8_take_5 (by decide) ?_
  refine lv_istore_n (lv' := [(3, .int (0 : Int32)), (0, .ref (ad 3)), (1, .ref (ad x1)), (2, .int x2)]) hx hb dX8_take_6 rfl hl (by decide) rfl (fun ls hl => ?_)
  obtain ⟨b1, e2, h⟩ := zbind h
  refine wX8_take_7 C x1 x2 zFU ((0 : Int32), zwI σ 3 0 x2) b1 e2 (fun H locs ls hw hl => ?_) _ _ _ hw (lv_sub hl [1, 2, 3, 0] rfl)
  have hl : lv_has ls 5 [(0, .ref (ad 3)), (1, .ref (ad x1)), (2, .int x2), (3, .int b1.1)] := hl
  obtain rfl := Option.some.inj h
  exact hret _ _ _ _ hw dX8_take_53
theorem hX8_twelfths : yX8_twelfths.cls = RX8 ∧ yX8_twelfths.cls ≠ "java/lang/invoke/MethodHandle" ∧ yX8_twelfths.cls ≠ "java/lang/invoke/VarHandle" ∧ (parseMethodDescriptor yX8_twelfths.desc).map (fun d => d.parameters.length) = some 3 := by decide +kernel
set_option maxHeartbeats 4000000 in
set_option maxRecDepth 100000 in
theorem kX8_twelfths (l : Launch) (D : va_G) (g : zG) (ad : Nat → Nat) (σ : zSt) (x1 : Int32) (x2 : Int32) (x3 : Int32) (o : Int32) (h : fX8_twelfths σ x1 x2 x3 = some o) : zMi l D g 0 ad yX8_twelfths (Cond.code yX8_twelfths cX8_twelfths 4 (some .int) :: zws) (zRm 0) [.ref (ad 3), .int x1, .int x2, .int x3] σ o σ := by
  refine z_enter_i (by decide) (Nat.le_of_ble_eq_true rfl) ?_
  intro p e s m below meth c A ls Q C hw hl hret
  obtain ⟨hx, hb, hml, hown, hts, hK, hA⟩ := id C
  have hown : s.vm.findClass RX8 = some m.cls := hown
  have C : zCx p c cX8_twelfths s _ RX8 m 4 A s.heap D g := C
  have hl : lv_has ls 4 [(0, .ref (ad 3)), (1, .int x1), (2, .int x2), (3, .int x3)] := hl
  unfold fX8_twelfths at h
  refine lv_aload_n hx hb dX8_twelfths_0 rfl (lv_at hl 0 rfl) ?_
  refine z_getc hx hb hts zin_X8 hown hK hw zF0_3_1 (hts _ zw_141) dX8_twelfths_1 ?_
  refine lv_iload_n hx hb dX8_twelfths_4 rfl (lv_at hl 1 rfl) ?_
  refine lv_bipush (v := 6) hx hb dX8_twelfths_5 (by decide) ?_
  refine lv_imul hx hb dX8_twelfths_7 ?_
  refine lv_iload_n hx hb dX8_twelfths_8 rfl (lv_at hl 2 rfl) ?_
  refine lv_iadd hx hb dX8_twelfths_9 ?_
  obtain ⟨q1, e2, h⟩ := zbind h
  refine z_aald hx hb hK hw e2 dX8_twelfths_10 ?_
  refine lv_iload_n hx hb dX8_twelfths_11 rfl (lv_at hl 3 rfl) ?_
  obtain ⟨v3, e4, h⟩ := zbind h
  refine z_iald hx hb hK hw e4 dX8_twelfths_12 ?_
  obtain rfl := Option.some.inj h
  exact hret _ _ _ _ hw rfl dX8_twelfths_13
set_option maxHeartbeats 4000000 in
set_option maxRecDepth 100000 in
theorem wX8_sameMeaning_5 {p : Program} {l : Launch} {e : Env} {s : State} {m : MethodId} {args : Array Value} {below : List Frame} {meth : Method} {c : Code} {A : Nat → Prop} {H0 : Heap} {Q : State → Prop} {D : va_G} {g : zG} {ad : Nat → Nat} (C : zCx p c cX8_sameMeaning s args RX8 m 5 A H0 D g) (σ : zSt) (x1 : Int32) (x2 : Int32) (n : Nat) (a : (Int32 × Int32)) (b : (Int32 × Int32)) (h : zLp (fun a => bX8_sameMeaning_5 σ x1 x2 a.1 a.2) n a = some b) (hk : ∀ (H : Heap) (locs : List Loc) (ls : Array Slot), zH D g 0 ad A H0 σ H locs → lv_has ls 5 [(0, .ref (ad 3)), (1, .int x1), (2, .int x2), (3, .int b.1), (4, .int b.2)] → W p l e (zRm 1) s m args below meth c H locs 0 0 Q (F0 m 49 ls [])) : ∀ (H : Heap) (locs : List Loc) (ls : Array Slot), zH D g 0 ad A H0 σ H locs → lv_has ls 5 [(0, .ref (ad 3)), (1, .int x1), (2, .int x2), (3, .int a.1), (4, .int a.2)] → W p l e (zRm 1) s m args below meth c H locs 0 0 Q (F0 m 5 ls []) := by
  obtain ⟨hx, hb, hml, hown, hts, hK, hA⟩ := id C
  refine zLp_walk (P := fun (a : (Int32 × Int32)) => ∀ (H : Heap) (locs : List Loc) (ls : Array Slot), zH D g 0 ad A H0 σ H locs → lv_has ls 5 [(0, .ref (ad 3)), (1, .int x1), (2, .int x2), (3, .int a.1), (4, .int a.2)] → W p l e (zRm 1) s m args below meth c H locs 0 0 Q (F0 m 5 ls [])) (E := fun (b' : (Int32 × Int32)) => b' = b) ?_ n a b h rfl
  intro a r h hn he H locs ls hw hl
  obtain ⟨x3, x4⟩ := a
  have h : bX8_sameMeaning_5 σ x1 x2 x3 x4 = some r := h
  have hl : lv_has ls 5 [(0, .ref (ad 3)), (1, .int x1), (2, .int x2), (3, .int x3), (4, .int x4)] := hl
  have hw : zH D g 0 ad A H0 σ H locs := hw
  unfold bX8_sameMeaning_5 at h
  refine lv_iload hx hb dX8_sameMeaning_5 (lv_at hl 4 rfl) ?_
  refine lv_aload_n hx hb dX8_sameMeaning_7 rfl (lv_at hl 0 rfl) ?_
  refine z_geti hx hb hts zin_X8 hown hK hw zF0_3_0 (hts _ zw_137) dX8_sameMeaning_8 ?_
  refine lv_icmp_ge (tgt := 49) hx hb dX8_sameMeaning_11 (by decide) (fun t1 => ?_) (fun t1 => ?_)
  · rw [if_pos t1] at h
    obtain rfl := Option.some.inj h
    obtain rfl := he _ rfl
    exact hk _ _ _ hw (lv_sub hl [0, 1, 2, 3, 4] rfl)
  · rw [if_neg t1] at h
    refine lv_iload hx hb dX8_sameMeaning_14 (lv_at hl 4 rfl) ?_
    refine lv_iload_n hx hb dX8_sameMeaning_16 rfl (lv_at hl 2 rfl) ?_
    refine lv_icmp_eq (tgt := 43) hx hb dX8_sameMeaning_17 (by decide) (fun t2 => ?_) (fun t2 => ?_)
    · rw [if_pos t2] at h
      refine lv_iinc (v := x4 + 1) (lv' := [(4, .int (x4 + 1)), (0, .ref (ad 3)), (1, .int x1), (2, .int x2), (3, .int x3)]) hx hb dX8_sameMeaning_43 hl (k := 4) rfl rfl (by decide) rfl (fun ls hl => ?_)
      refine lv_goto (tgt := 5) hx hb dX8_sameMeaning_46 (by decide) ?_
      obtain rfl := Option.some.inj h
      exact hn _ rfl _ _ _ hw (lv_sub hl [1, 2, 3, 4, 0] rfl)
    · rw [if_neg t2] at h
      refine lv_aload_n hx hb dX8_sameMeaning_20 rfl (lv_at hl 0 rfl) ?_
      refine lv_iload_n hx hb dX8_sameMeaning_21 rfl (lv_at hl 1 rfl) ?_
      refine lv_iload hx hb dX8_sameMeaning_22 (lv_at hl 4 rfl) ?_
      obtain ⟨r3, e4, h⟩ := zbind h
      refine z_cVi (As := [.int x1, .int x4]) (rest := []) ⟨hx, hb, hml, hown, hts⟩ hK hw hA (kX8_meaning l D g ad σ x1 x4 r3 e4) (zcwV 2 hts zgoodIn zw_443 zw_432 zw_433 zw_56 zw_434 rfl rfl hX8_meaning ⟨Nat.le_of_ble_eq_true rfl, Nat.le_of_ble_eq_true rfl⟩) zO0_3 rfl hl.1 rfl (Nat.le_of_ble_eq_true rfl) dX8_sameMeaning_24 ⟨Nat.zero_le _, Nat.zero_le _⟩ (fun H locs hw => ?_)
      refine lv_aload_n hx hb dX8_sameMeaning_27 rfl (lv_at hl 0 rfl) ?_
      refine lv_iload_n hx hb dX8_sameMeaning_28 rfl (lv_at hl 1 rfl) ?_
      refine lv_iload_n hx hb dX8_sameMeaning_29 rfl (lv_at hl 2 rfl) ?_
      obtain ⟨r5, e6, h⟩ := zbind h
      refine z_cVi (As := [.int x1, .int x2]) (rest := [.int r3]) ⟨hx, hb, hml, hown, hts⟩ hK hw hA (kX8_meaning l D g ad σ x1 x2 r5 e6) (zcwV 2 hts zgoodIn zw_443 zw_432 zw_433 zw_56 zw_434 rfl rfl hX8_meaning ⟨Nat.le_of_ble_eq_true rfl, Nat.le_of_ble_eq_true rfl⟩) zO0_3 rfl hl.1 rfl (Nat.le_of_ble_eq_true rfl) dX8_sameMeaning_30 ⟨Nat.zero_le _, Nat.zero_le _⟩ (fun H locs hw => ?_)
      refine lv_icmp_ne (tgt := 43) hx hb dX8_sameMeaning_33 (by decide) (fun t7 => ?_) (fun t7 => ?_)
      · rw [if_neg t7] at h
        refine lv_iinc (v := x4 + 1) (lv' := [(4, .int (x4 + 1)), (0, .ref (ad 3)), (1, .int x1), (2, .int x2), (3, .int x3)]) hx hb dX8_sameMeaning_43 hl (k := 4) rfl rfl (by decide) rfl (fun ls hl => ?_)
        refine lv_goto (tgt := 5) hx hb dX8_sameMeaning_46 (by decide) ?_
        obtain rfl := Option.some.inj h
        exact hn _ rfl _ _ _ hw (lv_sub hl [1, 2, 3, 4, 0] rfl)
      · rw [if_pos t7] at h
        refine lv_iload_n hx hb dX8_sameMeaning_36 rfl (lv_at hl 3 rfl) ?_
        refine lv_iconst (v := 1) hx hb dX8_sameMeaning_37 (by decide) ?_
        refine lv_iload hx hb dX8_sameMeaning_38 (lv_at hl 4 rfl) ?_
        refine lv_ishl hx hb dX8_sameMeaning_40 ?_
        refine lv_ior hx hb dX8_sameMeaning_41 ?_
        refine lv_istore_n (lv' := [(3, .int (x3 ||| ((1 : Int32) <<< (x4 &&& 31)))), (0, .ref (ad 3)), (1, .int x1), (2, .int x2), (4, .int x4)]) hx hb dX8_sameMeaning_42 rfl hl (by decide) rfl (fun ls hl => ?_)
        refine lv_iinc (v := x4 + 1) (lv' := [(4, .int (x4 + 1)), (3, .int (x3 ||| ((1 : Int32) <<< (x4 &&& 31)))), (0, .ref (ad 3)), (1, .int x1), (2, .int x2)]) hx hb dX8_sameMeaning_43 hl (k := 4) rfl rfl (by decide) rfl (fun ls hl => ?_)
        refine lv_goto (tgt := 5) hx hb dX8_sameMeaning_46 (by decide) ?_
        obtain rfl := Option.some.inj h
        exact hn _ rfl _ _ _ hw (lv_sub hl [2, 3, 4, 1, 0] rfl)
theorem hX8_sameMeaning : yX8_sameMeaning.cls = RX8 ∧ yX8_sameMeaning.cls ≠ "java/lang/invoke/MethodHandle" ∧ yX8_sameMeaning.cls ≠ "java/lang/invoke/VarHandle" ∧ (parseMethodDescriptor yX8_sameMeaning.desc).map (fun d => d.parameters.length) = some 2 := by decide +kernel
set_option maxHeartbeats 4000000 in
set_option maxRecDepth 100000 in
theorem kX8_sameMeaning (l : Launch) (D : va_G) (g : zG) (ad : Nat → Nat) (σ : zSt) (x1 : Int32) (x2 : Int32) (o : Int32) (h : fX8_sameMeaning σ x1 x2 = some o) : zMi l D g 0 ad yX8_sameMeaning (Cond.code yX8_sameMeaning cX8_sameMeaning 5 (some .int) :: zws) (zRm 1) [.ref (ad 3), .int x1, .int x2] σ o σ := by
  refine z_enter_i (by decide) (Nat.le_of_ble_eq_true rfl) ?_
  intro p e s m below meth c A ls Q C hw hl hret
  obtain ⟨hx, hb, hml, hown, hts, hK, hA⟩ := id C
  have hown : s.vm.findClass RX8 = some m.cls := hown
  have C : zCx p c cX8_sameMeaning s _ RX8 m 5 A s.heap D g := C
  have hl : lv_has ls 5 [(0, .ref (ad 3)), (1, .int x1), (2, .int x2)] := hl
  unfold fX8_sameMeaning at h
  refine lv_iconst (v := 0) hx hb dX8_sameMeaning_0 (by decide) ?_
  refine lv_istore_n (lv' := [(3, .int (0 : Int32)), (0, .ref (ad 3)), (1, .int x1), (2, .int x2)]) hx hb dX8_sameMeaning_1 rfl hl (by decide) rfl (fun ls hl => ?_)
  refine lv_iconst (v := 0) hx hb dX8_sameMeaning_2 (by decide) ?_
  refine lv_istore (lv' := [(4, .int (0 : Int32)), (3, .int (0 : Int32)), (0, .ref (ad 3)), (1, .int x1), (2, .int x2)]) hx hb dX8_sameMeaning_3 hl (by decide) rfl (fun ls hl => ?_)
  obtain ⟨b1, e2, h⟩ := zbind h
  refine wX8_sameMeaning_5 C σ x1 x2 zFU ((0 : Int32), (0 : Int32)) b1 e2 (fun H locs ls hw hl => ?_) _ _ _ hw (lv_sub hl [2, 3, 4, 1, 0] rfl)
  have hl : lv_has ls 5 [(0, .ref (ad 3)), (1, .int x1), (2, .int x2), (3, .int b1.1), (4, .int b1.2)] := hl
  refine lv_iload_n hx hb dX8_sameMeaning_49 rfl (lv_at hl 3 rfl) ?_
  obtain rfl := Option.some.inj h
  exact hret _ _ _ _ hw rfl dX8_sameMeaning_50
theorem hX9_leave : yX9_leave.cls = RX9 ∧ yX9_leave.cls ≠ "java/lang/invoke/MethodHandle" ∧ yX9_leave.cls ≠ "java/lang/invoke/VarHandle" ∧ (parseMethodDescriptor yX9_leave.desc).map (fun d => d.parameters.length) = some 0 := by decide +kernel
set_option maxHeartbeats 4000000 in
set_option maxRecDepth 100000 in
theorem kX9_leave (l : Launch) (D : va_G) (g : zG) (ad : Nat → Nat) (σ : zSt) (o : zSt) (h : fX9_leave σ = o) : zMv l D g 0 ad yX9_leave (Cond.code yX9_leave cX9_leave 1 (none : Option Jvm.ClassFile.FieldType) :: zws) (zRm 0) [.ref (ad 5)] σ o := by
  refine z_enter_v (by decide) (Nat.le_of_ble_eq_true rfl) ?_
  intro p e s m below meth c A ls Q C hw hl hret
  obtain ⟨hx, hb, hml, hown, hts, hK, hA⟩ := id C
  have hown : s.vm.findClass RX9 = some m.cls := hown
  have C : zCx p c cX9_leave s _ RX9 m 1 A s.heap D g := C
  have hl : lv_has ls 1 [(0, .ref (ad 5))] := hl
  unfold fX9_leave at h
  refine lv_aload_n hx hb dX9_leave_0 rfl (lv_at hl 0 rfl) ?_
  refine lv_iconst (v := 0) hx hb dX9_leave_1 (by decide) ?_
  refine z_putb hx hb hts zin_X9 tyX9_ok nmX9 hown hK hw zF0_5_1 (hts _ zw_183) zY0_5_1 rfl rfl dX9_leave_2 (fun H locs hw => ?_)
  refine lv_aload_n hx hb dX9_leave_5 rfl (lv_at hl 0 rfl) ?_
  refine lv_iconst (v := 0) hx hb dX9_leave_6 (by decide) ?_
  refine z_puti hx hb hts zin_X9 tyX9_ok nmX9 hown hK hw zF0_5_2 (hts _ zw_185) zY0_5_2 dX9_leave_7 (fun H locs hw => ?_)
  subst h
  exact hret _ _ _ _ hw dX9_leave_10
set_option maxHeartbeats 4000000 in
set_option maxRecDepth 100000 in
theorem wX9_take_26 {p : Program} {l : Launch} {e : Env} {s : State} {m : MethodId} {args : Array Value} {below : List Frame} {meth : Method} {c : Code} {A : Nat → Prop} {H0 : Heap} {Q : State → Prop} {D : va_G} {g : zG} {ad : Nat → Nat} (C : zCx p c cX9_take s args RX9 m 7 A H0 D g) (x1 : Nat) (x2 : Int32) (x4 : Int32) (n : Nat) (a : (Int32 × Int32 × zSt)) (b : (Int32 × Int32 × zSt)) (h : zLp (fun a => bX9_take_26 x1 x2 x4 a.1 a.2.1 a.2.2) n a = some b) (hk : ∀ (H : Heap) (locs : List Loc) (ls : Array Slot), zH D g 0 ad A H0 b.2.2 H locs → lv_has ls 7 [(0, .ref (ad 5)), (1, .ref (ad x1)), (2, .int x2), (4, .int x4), (5, .int b.1), (6, .int b.2.1)] → W p l e (zRm 0) s m args below meth c H locs 0 0 Q (F0 m 75 ls [])) : ∀ (H : Heap) (locs : List Loc) (ls : Array Slot), zH D g 0 ad A H0 a.2.2 H locs → lv_has ls 7 [(0, .ref (ad 5)), (1, .ref (ad x1)), (2, .int x2), (4, .int x4), (5, .int a.1), (6, .int a.2.1)] → W p l e (zRm 0) s m args below meth c H locs 0 0 Q (F0 m 26 ls []) := by
  obtain ⟨hx, hb, hml, hown, hts, hK, hA⟩ := id C
  refine zLp_walk (P := fun (a : (Int32 × Int32 × zSt)) => ∀ (H : Heap) (locs : List Loc) (ls : Array Slot), zH D g 0 ad A H0 a.2.2 H locs → lv_has ls 7 [(0, .ref (ad 5)), (1, .ref (ad x1)), (2, .int x2), (4, .int x4), (5, .int a.1), (6, .int a.2.1)] → W p l e (zRm 0) s m args below meth c H locs 0 0 Q (F0 m 26 ls [])) (E := fun (b' : (Int32 × Int32 × zSt)) => b' = b) ?_ n a b h rfl
  intro a r h hn he H locs ls hw hl
  obtain ⟨x5, x6, σ⟩ := a
  have h : bX9_take_26 x1 x2 x4 x5 x6 σ = some r := h
  have hl : lv_has ls 7 [(0, .ref (ad 5)), (1, .ref (ad x1)), (2, .int x2), (4, .int x4), (5, .int x5), (6, .int x6)] := hl
  have hw : zH D g 0 ad A H0 σ H locs := hw
  unfold bX9_take_26 at h
  refine lv_iload hx hb dX9_take_26 (lv_at hl 5 rfl) ?_
  refine lv_iload_n hx hb dX9_take_28 rfl (lv_at hl 2 rfl) ?_
  refine lv_icmp_ge (tgt := 75) hx hb dX9_take_29 (by decide) (fun t1 => ?_) (fun t1 => ?_)
  · rw [if_pos t1] at h
    obtain rfl := Option.some.inj h
    obtain rfl := he _ rfl
    exact hk _ _ _ hw (lv_sub hl [0, 1, 2, 3, 4, 5] rfl)
  · rw [if_neg t1] at h
    refine lv_aload_n hx hb dX9_take_32 rfl (lv_at hl 0 rfl) ?_
    refine z_getc hx hb hts zin_X9 hown hK hw zF0_5_0 (hts _ zw_180) dX9_take_33 ?_
    refine lv_iload hx hb dX9_take_36 (lv_at hl 3 rfl) ?_
    obtain ⟨q2, e3, h⟩ := zbind h
    refine z_aald hx hb hK hw e3 dX9_take_38 ?_
    refine lv_iload hx hb dX9_take_39 (lv_at hl 5 rfl) ?_
    refine lv_aload_n hx hb dX9_take_41 rfl (lv_at hl 1 rfl) ?_
    refine lv_iload hx hb dX9_take_42 (lv_at hl 3 rfl) ?_
    obtain ⟨q4, e5, h⟩ := zbind h
    refine z_aald hx hb hK hw e5 dX9_take_44 ?_
    refine lv_iload hx hb dX9_take_45 (lv_at hl 5 rfl) ?_
    obtain ⟨v6, e7, h⟩ := zbind h
    refine z_iald hx hb hK hw e7 dX9_take_47 ?_
    refine lv_bipush (v := 12) hx hb dX9_take_48 (by decide) ?_
    refine lv_aload_n hx hb dX9_take_50 rfl (lv_at hl 0 rfl) ?_
    refine z_geti hx hb hts zin_X9 hown hK hw zF0_5_2 (hts _ zw_185) dX9_take_51 ?_
    refine lv_isub hx hb dX9_take_54 ?_
    refine lv_imul hx hb dX9_take_55 ?_
    obtain ⟨s8, e9, h⟩ := zbind h
    refine z_iast hx hb hK hw e9 dX9_take_56 (fun H locs hw => ?_)
    refine lv_iload hx hb dX9_take_57 (lv_at hl 4 rfl) ?_
    refine lv_aload_n hx hb dX9_take_59 rfl (lv_at hl 1 rfl) ?_
    refine lv_iload hx hb dX9_take_60 (lv_at hl 3 rfl) ?_
    obtain ⟨q10, e11, h⟩ := zbind h
    refine z_aald hx hb hK hw e11 dX9_take_62 ?_
    refine lv_iload hx hb dX9_take_63 (lv_at hl 5 rfl) ?_
    obtain ⟨v12, e13, h⟩ := zbind h
    refine z_iald hx hb hK hw e13 dX9_take_65 ?_
    refine lv_isub hx hb dX9_take_66 ?_
    refine lv_istore (lv' := [(5, .int (x5 - v12)), (0, .ref (ad 5)), (1, .ref (ad x1)), (2, .int x2), (4, .int x4), (6, .int x6)]) hx hb dX9_take_67 hl (by decide) rfl (fun ls hl => ?_)
    refine lv_iinc (v := x6 + 1) (lv' := [(6, .int (x6 + 1)), (5, .int (x5 - v12)), (0, .ref (ad 5)), (1, .ref (ad x1)), (2, .int x2), (4, .int x4)]) hx hb dX9_take_69 hl (k := 5) rfl rfl (by decide) rfl (fun ls hl => ?_)
    refine lv_goto (tgt := 26) hx hb dX9_take_72 (by decide) ?_
    obtain rfl := Option.some.inj h
    exact hn _ rfl _ _ _ hw (lv_sub hl [2, 3, 4, 5, 1, 0] rfl)
set_option maxHeartbeats 4000000 in
set_option maxRecDepth 100000 in
theorem wX9_take_13 {p : Program} {l : Launch} {e : Env} {s : State} {m : MethodId} {args : Array Value} {below : List Frame} {meth : Method} {c : Code} {A : Nat → Prop} {H0 : Heap} {Q : State → Prop} {D : va_G} {g : zG} {ad : Nat → Nat} (C : zCx p c cX9_take s args RX9 m 7 A H0 D g) (x1 : Nat) (x2 : Int32) (n : Nat) (a : (Int32 × zSt)) (b : (Int32 × zSt)) (h : zLp (fun a => bX9_take_13 x1 x2 a.1 a.2) n a = some b) (hk : ∀ (H : Heap) (locs : List Loc) (ls : Array Slot), zH D g 0 ad A H0 b.2 H locs → lv_has ls 7 [(0, .ref (ad 5)), (1, .ref (ad x1)), (2, .int x2), (4, .int b.1)] → W p l e (zRm 0) s m args below meth c H locs 0 0 Q (F0 m 119 ls [])) : ∀ (H : Heap) (locs : List Loc) (ls : Array Slot), zH D g 0 ad A H0 a.2 H locs → lv_has ls 7 [(0, .ref (ad 5)), (1, .ref (ad x1)), (2, .int x2), (4, .int a.1)] → W p l e (zRm 0) s m args below meth c H locs 0 0 Q (F0 m 13 ls []) := by
  obtain ⟨hx, hb, hml, hown, hts, hK, hA⟩ := id C
  refine zLp_walk (P := fun (a : (Int32 × zSt)) => ∀ (H : Heap) (locs : List Loc) (ls : Array Slot), zH D g 0 ad A H0 a.2 H locs → lv_has ls 7 [(0, .ref (ad 5)), (1, .ref (ad x1)), (2, .int x2), (4, .int a.1)] → W p l e (zRm 0) s m args below meth c H locs 0 0 Q (F0 m 13 ls [])) (E := fun (b' : (Int32 × zSt)) => b' = b) ?_ n a b h rfl
  intro a r h hn he H locs ls hw hl
  obtain ⟨x4, σ⟩ := a
  have h : bX9_take_13 x1 x2 x4 σ = some r := h
  have hl : lv_has ls 7 [(0, .ref (ad 5)), (1, .ref (ad x1)), (2, .int x2), (4, .int x4)] := hl
  have hw : zH D g 0 ad A H0 σ H locs := hw
  unfold bX9_take_13 at h
  refine lv_iload hx hb dX9_take_13 (lv_at hl 3 rfl) ?_
  refine lv_iload_n hx hb dX9_take_15 rfl (lv_at hl 2 rfl) ?_
  refine lv_icmp_ge (tgt := 119) hx hb dX9_take_16 (by decide) (fun t1 => ?_) (fun t1 => ?_)
  · rw [if_pos t1] at h
    obtain rfl := Option.some.inj h
    obtain rfl := he _ rfl
    exact hk _ _ _ hw (lv_sub hl [0, 1, 2, 3] rfl)
  · rw [if_neg t1] at h
    refine lv_bipush (v := 12) hx hb dX9_take_19 (by decide) ?_
    refine lv_istore (lv' := [(5, .int (12 : Int32)), (0, .ref (ad 5)), (1, .ref (ad x1)), (2, .int x2), (4, .int x4)]) hx hb dX9_take_21 hl (by decide) rfl (fun ls hl => ?_)
    refine lv_iconst (v := 0) hx hb dX9_take_23 (by decide) ?_
    refine lv_istore (lv' := [(6, .int (0 : Int32)), (5, .int (12 : Int32)), (0, .ref (ad 5)), (1, .ref (ad x1)), (2, .int x2), (4, .int x4)]) hx hb dX9_take_24 hl (by decide) rfl (fun ls hl => ?_)
    obtain ⟨b2, e3, h⟩ := zbind h
    refine wX9_take_26 C x1 x2 x4 zFU ((12 : Int32), (0 : Int32), σ) b2 e3 (fun H locs ls hw hl => ?_) _ _ _ hw (lv_sub hl [2, 3, 4, 5, 1, 0] rfl)
    have hl : lv_has ls 7 [(0, .ref (ad 5)), (1, .ref (ad x1)), (2, .int x2), (4, .int x4), (5, .int b2.1), (6, .int b2.2.1)] := hl
    refine lv_aload_n hx hb dX9_take_75 rfl (lv_at hl 0 rfl) ?_
    refine z_getc hx hb hts zin_X9 hown hK hw zF0_5_0 (hts _ zw_180) dX9_take_76 ?_
    refine lv_iload hx hb dX9_take_79 (lv_at hl 3 rfl) ?_
    obtain ⟨q4, e5, h⟩ := zbind h
    refine z_aald hx hb hK hw e5 dX9_take_81 ?_
    refine lv_iload_n hx hb dX9_take_82 rfl (lv_at hl 2 rfl) ?_
    refine lv_iload hx hb dX9_take_83 (lv_at hl 4 rfl) ?_
    refine lv_bipush (v := 12) hx hb dX9_take_85 (by decide) ?_
    refine lv_aload_n hx hb dX9_take_87 rfl (lv_at hl 0 rfl) ?_
    refine z_geti hx hb hts zin_X9 hown hK hw zF0_5_2 (hts _ zw_185) dX9_take_88 ?_
    refine lv_isub hx hb dX9_take_91 ?_
    refine lv_imul hx hb dX9_take_92 ?_
    obtain ⟨s6, e7, h⟩ := zbind h
    refine z_iast hx hb hK hw e7 dX9_take_93 (fun H locs hw => ?_)
    refine lv_aload_n hx hb dX9_take_94 rfl (lv_at hl 0 rfl) ?_
    refine z_getc hx hb hts zin_X9 hown hK hw zF0_5_0 (hts _ zw_180) dX9_take_95 ?_
    refine lv_iload hx hb dX9_take_98 (lv_at hl 3 rfl) ?_
    obtain ⟨q8, e9, h⟩ := zbind h
    refine z_aald hx hb hK hw e9 dX9_take_100 ?_
    refine lv_iconst (v := 0) hx hb dX9_take_101 (by decide) ?_
    refine lv_dup2_11 hx hb dX9_take_102 rfl rfl ?_
    obtain ⟨v10, e11, h⟩ := zbind h
    refine z_iald hx hb hK hw e11 dX9_take_103 ?_
    refine lv_bipush (v := 12) hx hb dX9_take_104 (by decide) ?_
    refine lv_aload_n hx hb dX9_take_106 rfl (lv_at hl 0 rfl) ?_
    refine z_geti hx hb hts zin_X9 hown hK hw zF0_5_2 (hts _ zw_185) dX9_take_107 ?_
    refine lv_imul hx hb dX9_take_110 ?_
    refine lv_iadd hx hb dX9_take_111 ?_
    obtain ⟨s12, e13, h⟩ := zbind h
    refine z_iast hx hb hK hw e13 dX9_take_112 (fun H locs hw => ?_)
    refine lv_iinc (v := x4 + 1) (lv' := [(4, .int (x4 + 1)), (0, .ref (ad 5)), (1, .ref (ad x1)), (2, .int x2), (5, .int b2.1), (6, .int b2.2.1)]) hx hb dX9_take_113 hl (k := 3) rfl rfl (by decide) rfl (fun ls hl => ?_)
    refine lv_goto (tgt := 13) hx hb dX9_take_116 (by decide) ?_
    obtain rfl := Option.some.inj h
    exact hn _ rfl _ _ _ hw (lv_sub hl [1, 2, 3, 0] rfl)
theorem hX9_take : yX9_take.cls = RX9 ∧ yX9_take.cls ≠ "java/lang/invoke/MethodHandle" ∧ yX9_take.cls ≠ "java/lang/invoke/VarHandle" ∧ (parseMethodDescriptor yX9_take.desc).map (fun d => d.parameters.length) = some 3 := by decide +kernel
set_option maxHeartbeats 4000000 in
set_option maxRecDepth 100000 in
theorem kX9_take (l : Launch) (D : va_G) (g : zG) (ad : Nat → Nat) (σ : zSt) (x1 : Nat) (x2 : Int32) (x3 : Int32) (o : zSt) (h : fX9_take σ x1 x2 x3 = some o) : zMv l D g 0 ad yX9_take (Cond.code yX9_take cX9_take 7 (none : Option Jvm.ClassFile.FieldType) :: zws) (zRm 0) [.ref (ad 5), .ref (ad x1), .int x2, .int x3] σ o := by
  refine z_enter_v (by decide) (Nat.le_of_ble_eq_true rfl) ?_
  intro p e s m below meth c A ls Q C hw hl hret
  obtain ⟨hx, hb, hml, hown, hts, hK, hA⟩ := id C
  have hown : s.vm.findClass RX9 = some m.cls := hown
  have C : zCx p c cX9_take s _ RX9 m 7 A s.heap D g := C
  have hl : lv_has ls 7 [(0, .ref (ad 5)), (1, .ref (ad x1)), (2, .int x2), (3, .int x3)] := hl
  unfold fX9_take at h
  refine lv_aload_n hx hb dX9_take_0 rfl (lv_at hl 0 rfl) ?_
  refine lv_iconst (v := 1) hx hb dX9_take_1 (by decide) ?_
  refine z_putb hx hb hts zin_X9 tyX9_ok nmX9 hown hK hw zF0_5_1 (hts _ zw_183) zY0_5_1 rfl rfl dX9_take_2 (fun H locs hw => ?_)
  refine lv_aload_n hx hb dX9_take_5 rfl (lv_at hl 0 rfl) ?_
  refine lv_iload_n hx hb dX9_take_6 rfl (lv_at hl 3 rfl) ?_
  refine z_puti hx hb hts zin_X9 tyX9_ok nmX9 hown hK hw zF0_5_2 (hts _ zw_185) zY0_5_2 dX9_take_7 (fun H locs hw => ?_)
  refine lv_iconst (v := 0) hx hb dX9_take_10 (by decide) ?_
  refine lv_istore (lv' := [(4, .int (0 : Int32)), (0, .ref (ad 5)), (1, .ref (ad x1)), (2, .int x2), (3, .int x3)]) hx hb dX9_take_11 hl (by decide) rfl (fun ls hl => ?_)
  obtain ⟨b1, e2, h⟩ := zbind h
  refine wX9_take_13 C x1 x2 zFU ((0 : Int32), zwI (zwI σ 5 1 (1 : Int32)) 5 2 x3) b1 e2 (fun H locs ls hw hl => ?_) _ _ _ hw (lv_sub hl [1, 2, 3, 0] rfl)
  have hl : lv_has ls 7 [(0, .ref (ad 5)), (1, .ref (ad x1)), (2, .int x2), (4, .int b1.1)] := hl
  obtain rfl := Option.some.inj h
  exact hret _ _ _ _ hw dX9_take_119
theorem hX10_isSort : yX10_isSort.cls ≠ "java/lang/invoke/MethodHandle" ∧ yX10_isSort.cls ≠ "java/lang/invoke/VarHandle" ∧ (parseMethodDescriptor yX10_isSort.desc).map (fun d => d.parameters.length) = some 1 := by decide +kernel
set_option maxHeartbeats 4000000 in
set_option maxRecDepth 100000 in
theorem kX10_isSort (l : Launch) (D : va_G) (g : zG) (ad : Nat → Nat) (σ : zSt) (x0 : Int32) (o : Int32) (h : fX10_isSort x0 = o) : zMi l D g 0 ad yX10_isSort (Cond.code yX10_isSort cX10_isSort 1 (some .boolean) :: zws) (zRm 0) [.int x0] σ o σ := by
  refine z_enter_i (by decide) (Nat.le_of_ble_eq_true rfl) ?_
  intro p e s m below meth c A ls Q C hw hl hret
  obtain ⟨hx, hb, hml, hown, hts, hK, hA⟩ := id C
  have hown : s.vm.findClass RX10 = some m.cls := hown
  have C : zCx p c cX10_isSort s _ RX10 m 1 A s.heap D g := C
  have hl : lv_has ls 1 [(0, .int x0)] := hl
  unfold fX10_isSort at h
  refine lv_iload_n hx hb dX10_isSort_0 rfl (lv_at hl 0 rfl) ?_
  refine lv_if_lt (tgt := 13) hx hb dX10_isSort_1 (by decide) (fun t1 => ?_) (fun t1 => ?_)
  · rw [if_pos t1] at h
    refine lv_iconst (v := 0) hx hb dX10_isSort_13 (by decide) ?_
    subst h
    exact hret _ _ _ _ hw zb0 dX10_isSort_14
  · rw [if_neg t1] at h
    refine lv_iload_n hx hb dX10_isSort_4 rfl (lv_at hl 0 rfl) ?_
    refine lv_iconst (v := 3) hx hb dX10_isSort_5 (by decide) ?_
    refine lv_icmp_ge (tgt := 13) hx hb dX10_isSort_6 (by decide) (fun t2 => ?_) (fun t2 => ?_)
    · rw [if_pos t2] at h
      refine lv_iconst (v := 0) hx hb dX10_isSort_13 (by decide) ?_
      subst h
      exact hret _ _ _ _ hw zb0 dX10_isSort_14
    · rw [if_neg t2] at h
      refine lv_iconst (v := 1) hx hb dX10_isSort_9 (by decide) ?_
      refine lv_goto (tgt := 14) hx hb dX10_isSort_10 (by decide) ?_
      subst h
      exact hret _ _ _ _ hw zb1 dX10_isSort_14
theorem hX10_refuseRow : yX10_refuseRow.cls = RX10 ∧ yX10_refuseRow.cls ≠ "java/lang/invoke/MethodHandle" ∧ yX10_refuseRow.cls ≠ "java/lang/invoke/VarHandle" ∧ (parseMethodDescriptor yX10_refuseRow.desc).map (fun d => d.parameters.length) = some 2 := by decide +kernel
set_option maxHeartbeats 4000000 in
set_option maxRecDepth 100000 in
theorem kX10_refuseRow (l : Launch) (D : va_G) (g : zG) (ad : Nat → Nat) (σ : zSt) (x1 : Int32) (x2 : Int32) (o : Int32 × zSt) (h : fX10_refuseRow σ x1 x2 = o) : zMi l D g 0 ad yX10_refuseRow (Cond.code yX10_refuseRow cX10_refuseRow 3 (some .int) :: zws) (zRm 1) [.ref (ad 0), .int x1, .int x2] σ o.1 o.2 := by
  refine z_enter_i (by decide) (Nat.le_of_ble_eq_true rfl) ?_
  intro p e s m below meth c A ls Q C hw hl hret
  obtain ⟨hx, hb, hml, hown, hts, hK, hA⟩ := id C
  have hown : s.vm.findClass RX10 = some m.cls := hown
  have C : zCx p c cX10_refuseRow s _ RX10 m 3 A s.heap D g := C
  have hl : lv_has ls 3 [(0, .ref (ad 0)), (1, .int x1), (2, .int x2)] := hl
  unfold fX10_refuseRow at h
  refine lv_aload_n hx hb dX10_refuseRow_0 rfl (lv_at hl 0 rfl) ?_
  refine lv_iconst (v := 0) hx hb dX10_refuseRow_1 (by decide) ?_
  refine z_puti hx hb hts zin_X10 tyX10_ok nmX10 hown hK hw zF0_0_10 (hts _ zw_306) zY0_0_10 dX10_refuseRow_2 (fun H locs hw => ?_)
  refine lv_aload_n hx hb dX10_refuseRow_5 rfl (lv_at hl 0 rfl) ?_
  refine z_getc hx hb hts zin_X10 hown hK hw zF0_0_0 (hts _ zw_296) dX10_refuseRow_6 ?_
  refine lv_iload_n hx hb dX10_refuseRow_9 rfl (lv_at hl 1 rfl) ?_
  refine z_cVi (As := [.int x1]) (rest := []) ⟨hx, hb, hml, hown, hts⟩ hK hw hA (kX6_has l D g ad (zwI σ 0 10 (0 : Int32)) x1 _ rfl) (zcwV 1 hts zgoodIn zw_338 zw_339 zw_340 zw_53 zw_341 rfl rfl hX6_has ⟨Nat.le_of_ble_eq_true rfl, Nat.le_of_ble_eq_true rfl⟩) zO0_1 rfl hl.1 rfl (Nat.le_of_ble_eq_true rfl) dX10_refuseRow_10 ⟨Nat.zero_le _, Nat.zero_le _⟩ (fun H locs hw => ?_)
  refine lv_if_ne (tgt := 18) hx hb dX10_refuseRow_13 (by decide) (fun t1 => ?_) (fun t1 => ?_)
  · rw [if_neg t1] at h
    refine lv_iload_n hx hb dX10_refuseRow_18 rfl (lv_at hl 2 rfl) ?_
    refine z_cSi (As := [.int x2]) (rest := []) ⟨hx, hb, hml, hown, hts⟩ hK hw hA (kX10_isSort l D g ad (zwI σ 0 10 (0 : Int32)) x2 _ rfl) (zcwS 1 hts zgoodIn zw_342 zw_343 zw_52 zw_344 rfl rfl hX10_isSort ⟨Nat.le_of_ble_eq_true rfl, Nat.le_of_ble_eq_true rfl⟩) rfl hl.1 rfl (Nat.le_of_ble_eq_true rfl) dX10_refuseRow_19 ⟨Nat.zero_le _, Nat.zero_le _⟩ (fun H locs hw => ?_)
    refine lv_if_eq (tgt := 29) hx hb dX10_refuseRow_22 (by decide) (fun t2 => ?_) (fun t2 => ?_)
    · rw [if_pos t2] at h
      refine lv_bipush (v := (-2)) hx hb dX10_refuseRow_29 (by decide) ?_
      subst h
      exact hret _ _ _ _ hw rfl dX10_refuseRow_31
    · rw [if_neg t2] at h
      refine lv_iconst (v := 0) hx hb dX10_refuseRow_25 (by decide) ?_
      refine lv_goto (tgt := 31) hx hb dX10_refuseRow_26 (by decide) ?_
      subst h
      exact hret _ _ _ _ hw rfl dX10_refuseRow_31
  · rw [if_pos t1] at h
    refine lv_iconst (v := (-1)) hx hb dX10_refuseRow_16 (by decide) ?_
    subst h
    exact hret _ _ _ _ hw rfl dX10_refuseRow_17
theorem hX10_comeTo : yX10_comeTo.cls = RX10 ∧ yX10_comeTo.cls ≠ "java/lang/invoke/MethodHandle" ∧ yX10_comeTo.cls ≠ "java/lang/invoke/VarHandle" ∧ (parseMethodDescriptor yX10_comeTo.desc).map (fun d => d.parameters.length) = some 1 := by decide +kernel
set_option maxHeartbeats 4000000 in
set_option maxRecDepth 100000 in
theorem kX10_comeTo (l : Launch) (D : va_G) (g : zG) (ad : Nat → Nat) (σ : zSt) (x1 : Int32) (o : Int32 × zSt) (h : fX10_comeTo σ x1 = o) : zMi l D g 0 ad yX10_comeTo (Cond.code yX10_comeTo cX10_comeTo 2 (some .int) :: zws) (zRm 0) [.ref (ad 0), .int x1] σ o.1 o.2 := by
  refine z_enter_i (by decide) (Nat.le_of_ble_eq_true rfl) ?_
  intro p e s m below meth c A ls Q C hw hl hret
  obtain ⟨hx, hb, hml, hown, hts, hK, hA⟩ := id C
  have hown : s.vm.findClass RX10 = some m.cls := hown
  have C : zCx p c cX10_comeTo s _ RX10 m 2 A s.heap D g := C
  have hl : lv_has ls 2 [(0, .ref (ad 0)), (1, .int x1)] := hl
  unfold fX10_comeTo at h
  refine lv_aload_n hx hb dX10_comeTo_0 rfl (lv_at hl 0 rfl) ?_
  refine lv_iload_n hx hb dX10_comeTo_1 rfl (lv_at hl 1 rfl) ?_
  refine z_puti hx hb hts zin_X10 tyX10_ok nmX10 hown hK hw zF0_0_10 (hts _ zw_306) zY0_0_10 dX10_comeTo_2 (fun H locs hw => ?_)
  refine lv_iload_n hx hb dX10_comeTo_5 rfl (lv_at hl 1 rfl) ?_
  refine lv_if_ne (tgt := 13) hx hb dX10_comeTo_6 (by decide) (fun t1 => ?_) (fun t1 => ?_)
  · rw [if_neg t1] at h
    refine lv_bipush (v := (-10)) hx hb dX10_comeTo_13 (by decide) ?_
    refine lv_iload_n hx hb dX10_comeTo_15 rfl (lv_at hl 1 rfl) ?_
    refine lv_isub hx hb dX10_comeTo_16 ?_
    subst h
    exact hret _ _ _ _ hw rfl dX10_comeTo_17
  · rw [if_pos t1] at h
    refine lv_iconst (v := 0) hx hb dX10_comeTo_9 (by decide) ?_
    refine lv_goto (tgt := 17) hx hb dX10_comeTo_10 (by decide) ?_
    subst h
    exact hret _ _ _ _ hw rfl dX10_comeTo_17
theorem hX10_tongues : yX10_tongues.cls = RX10 ∧ yX10_tongues.cls ≠ "java/lang/invoke/MethodHandle" ∧ yX10_tongues.cls ≠ "java/lang/invoke/VarHandle" ∧ (parseMethodDescriptor yX10_tongues.desc).map (fun d => d.parameters.length) = some 4 := by decide +kernel
set_option maxHeartbeats 4000000 in
set_option maxRecDepth 100000 in
theorem kX10_tongues (l : Launch) (D : va_G) (g : zG) (ad : Nat → Nat) (σ : zSt) (x1 : Int32) (x2 : Int32) (x3 : Int32) (x4 : Int32) (o : Int32 × zSt) (h : fX10_tongues σ x1 x2 x3 x4 = some o) : zMi l D g 0 ad yX10_tongues (Cond.code yX10_tongues cX10_tongues 7 (some .int) :: zws) (zRm 4) [.ref (ad 0), .int x1, .int x2, .int x3, .int x4] σ o.1 o.2 := by
  refine z_enter_i (by decide) (Nat.le_of_ble_eq_true rfl) ?_
  intro p e s m below meth c A ls Q C hw hl hret
  obtain ⟨hx, hb, hml, hown, hts, hK, hA⟩ := id C
  have hown : s.vm.findClass RX10 = some m.cls := hown
  have C : zCx p c cX10_tongues s _ RX10 m 7 A s.heap D g := C
  have hl : lv_has ls 7 [(0, .ref (ad 0)), (1, .int x1), (2, .int x2), (3, .int x3), (4, .int x4)] := hl
  unfold fX10_tongues at h
  refine lv_aload_n hx hb dX10_tongues_0 rfl (lv_at hl 0 rfl) ?_
  refine lv_iload_n hx hb dX10_tongues_1 rfl (lv_at hl 1 rfl) ?_
  refine lv_iload_n hx hb dX10_tongues_2 rfl (lv_at hl 2 rfl) ?_
  refine z_cVi (As := [.int x1, .int x2]) (rest := []) ⟨hx, hb, hml, hown, hts⟩ hK hw hA (kX10_refuseRow l D g ad σ x1 x2 _ rfl) (zcwV 2 hts zgoodIn zw_334 zw_336 zw_0 zw_52 zw_337 rfl rfl hX10_refuseRow ⟨Nat.le_of_ble_eq_true rfl, Nat.le_of_ble_eq_true rfl⟩) zO0_0 rfl hl.1 rfl (Nat.le_of_ble_eq_true rfl) dX10_tongues_3 ⟨Nat.zero_le _, Nat.zero_le _⟩ (fun H locs hw => ?_)
  refine lv_istore (lv' := [(5, .int ((fX10_refuseRow σ x1 x2).1)), (0, .ref (ad 0)), (1, .int x1), (2, .int x2), (3, .int x3), (4, .int x4)]) hx hb dX10_tongues_6 hl (by decide) rfl (fun ls hl => ?_)
  refine lv_iload hx hb dX10_tongues_8 (lv_at hl 0 rfl) ?_
  refine lv_if_eq (tgt := 16) hx hb dX10_tongues_10 (by decide) (fun t1 => ?_) (fun t1 => ?_)
  · rw [if_pos t1] at h
    refine lv_aload_n hx hb dX10_tongues_16 rfl (lv_at hl 1 rfl) ?_
    refine lv_aload_n hx hb dX10_tongues_17 rfl (lv_at hl 1 rfl) ?_
    refine z_getc hx hb hts zin_X10 hown hK hw zF0_0_0 (hts _ zw_296) dX10_tongues_18 ?_
    refine lv_iload_n hx hb dX10_tongues_21 rfl (lv_at hl 2 rfl) ?_
    refine lv_iload_n hx hb dX10_tongues_22 rfl (lv_at hl 3 rfl) ?_
    refine lv_iload_n hx hb dX10_tongues_23 rfl (lv_at hl 4 rfl) ?_
    refine lv_iload hx hb dX10_tongues_24 (lv_at hl 5 rfl) ?_
    obtain ⟨r2, e3, h⟩ := zbind h
    refine z_cVi (As := [.int x1, .int x2, .int x3, .int x4]) (rest := [.ref (ad 0)]) ⟨hx, hb, hml, hown, hts⟩ hK hw hA (kX6_faultOfCells l D g ad ((fX10_refuseRow σ x1 x2).2) x1 x2 x3 x4 r2 e3) (zcwV 4 hts zgoodIn zw_345 zw_346 zw_347 zw_53 zw_348 rfl rfl hX6_faultOfCells ⟨Nat.le_of_ble_eq_true rfl, Nat.le_of_ble_eq_true rfl⟩) zO0_1 rfl hl.1 rfl (Nat.le_of_ble_eq_true rfl) dX10_tongues_26 ⟨Nat.zero_le _, Nat.zero_le _⟩ (fun H locs hw => ?_)
    refine z_cVi (As := [.int r2]) (rest := []) ⟨hx, hb, hml, hown, hts⟩ hK hw hA (kX10_comeTo l D g ad ((fX10_refuseRow σ x1 x2).2) r2 _ rfl) (zcwV 1 hts zgoodIn zw_357 zw_359 zw_2 zw_52 zw_360 rfl rfl hX10_comeTo ⟨Nat.le_of_ble_eq_true rfl, Nat.le_of_ble_eq_true rfl⟩) zO0_0 rfl hl.1 rfl (Nat.le_of_ble_eq_true rfl) dX10_tongues_29 ⟨Nat.zero_le _, Nat.zero_le _⟩ (fun H locs hw => ?_)
    refine lv_istore (lv' := [(6, .int ((fX10_comeTo ((fX10_refuseRow σ x1 x2).2) r2).1)), (5, .int ((fX10_refuseRow σ x1 x2).1)), (0, .ref (ad 0)), (1, .int x1), (2, .int x2), (3, .int x3), (4, .int x4)]) hx hb dX10_tongues_32 hl (by decide) rfl (fun ls hl => ?_)
    refine lv_iload hx hb dX10_tongues_34 (lv_at hl 0 rfl) ?_
    refine lv_if_eq (tgt := 42) hx hb dX10_tongues_36 (by decide) (fun t4 => ?_) (fun t4 => ?_)
    · rw [if_pos t4] at h
      refine lv_aload_n hx hb dX10_tongues_42 rfl (lv_at hl 2 rfl) ?_
      refine z_getc hx hb hts zin_X10 hown hK hw zF0_0_1 (hts _ zw_297) dX10_tongues_43 ?_
      refine lv_aload_n hx hb dX10_tongues_46 rfl (lv_at hl 2 rfl) ?_
      refine z_getc hx hb hts zin_X10 hown hK hw zF0_0_0 (hts _ zw_296) dX10_tongues_47 ?_
      refine z_getc hx hb hts zin_X6 hown hK hw zF0_1_0 (hts _ zw_87) dX10_tongues_50 ?_
      refine lv_iload_n hx hb dX10_tongues_53 rfl (lv_at hl 3 rfl) ?_
      obtain ⟨q5, e6, h⟩ := zbind h
      refine z_aald hx hb hK hw e6 dX10_tongues_54 ?_
      refine lv_iload_n hx hb dX10_tongues_55 rfl (lv_at hl 5 rfl) ?_
      refine lv_iload hx hb dX10_tongues_56 (lv_at hl 6 rfl) ?_
      refine z_cVv (As := [.ref (ad q5), .int x3, .int x4]) (rest := []) ⟨hx, hb, hml, hown, hts⟩ hK hw hA (kX5_open l D g ad ((fX10_comeTo ((fX10_refuseRow σ x1 x2).2) r2).2) q5 x3 x4 _ rfl) (zcwV 3 hts zgoodIn zw_361 zw_362 zw_363 zw_55 zw_364 rfl rfl hX5_open ⟨Nat.le_of_ble_eq_true rfl, Nat.le_of_ble_eq_true rfl⟩) zO0_2 rfl hl.1 rfl (Nat.le_of_ble_eq_true rfl) dX10_tongues_58 ⟨Nat.zero_le _, Nat.zero_le _⟩ (fun H locs hw => ?_)
      refine lv_aload_n hx hb dX10_tongues_61 rfl (lv_at hl 2 rfl) ?_
      refine z_getc hx hb hts zin_X10 hown hK hw zF0_0_1 (hts _ zw_297) dX10_tongues_62 ?_
      obtain ⟨r7, e8, h⟩ := zbind h
      refine z_cVi (As := []) (rest := []) ⟨hx, hb, hml, hown, hts⟩ hK hw hA (kX5_readsTongues l D g ad (fX5_open ((fX10_comeTo ((fX10_refuseRow σ x1 x2).2) r2).2) q5 x3 x4) r7 e8) (zcwV 0 hts zgoodIn zw_365 zw_366 zw_367 zw_55 zw_368 rfl rfl hX5_readsTongues ⟨Nat.le_of_ble_eq_true rfl, Nat.le_of_ble_eq_true rfl⟩) zO0_2 rfl hl.1 rfl (Nat.le_of_ble_eq_true rfl) dX10_tongues_65 ⟨Nat.zero_le _, Nat.zero_le _⟩ (fun H locs hw => ?_)
      refine lv_if_ne (tgt := 82) hx hb dX10_tongues_68 (by decide) (fun t9 => ?_) (fun t9 => ?_)
      · rw [if_neg t9] at h
        refine lv_aload_n hx hb dX10_tongues_82 rfl (lv_at hl 2 rfl) ?_
        refine z_getc hx hb hts zin_X10 hown hK hw zF0_0_2 (hts _ zw_298) dX10_tongues_83 ?_
        refine lv_aload_n hx hb dX10_tongues_86 rfl (lv_at hl 2 rfl) ?_
        refine z_getc hx hb hts zin_X10 hown hK hw zF0_0_1 (hts _ zw_297) dX10_tongues_87 ?_
        refine z_getc hx hb hts zin_X5 hown hK hw zF0_2_0 (hts _ zw_106) dX10_tongues_90 ?_
        refine lv_aload_n hx hb dX10_tongues_93 rfl (lv_at hl 2 rfl) ?_
        refine z_getc hx hb hts zin_X10 hown hK hw zF0_0_1 (hts _ zw_297) dX10_tongues_94 ?_
        refine z_geti hx hb hts zin_X5 hown hK hw zF0_2_1 (hts _ zw_107) dX10_tongues_97 ?_
        obtain ⟨r10, e11, h⟩ := zbind h
        refine z_cVv (As := [.ref (ad 18), .int (zI r7.2 2 1)]) (rest := []) ⟨hx, hb, hml, hown, hts⟩ hK hw hA (kX8_take l D g ad r7.2 18 (zI r7.2 2 1) r10 e11) (zcwV 2 hts zgoodIn zw_392 zw_393 zw_394 zw_56 zw_395 rfl rfl hX8_take ⟨Nat.le_of_ble_eq_true rfl, Nat.le_of_ble_eq_true rfl⟩) zO0_3 rfl hl.1 rfl (Nat.le_of_ble_eq_true rfl) dX10_tongues_100 ⟨Nat.zero_le _, Nat.zero_le _⟩ (fun H locs hw => ?_)
        refine lv_aload_n hx hb dX10_tongues_103 rfl (lv_at hl 2 rfl) ?_
        refine z_getc hx hb hts zin_X10 hown hK hw zF0_0_4 (hts _ zw_300) dX10_tongues_104 ?_
        refine z_cVv (As := []) (rest := []) ⟨hx, hb, hml, hown, hts⟩ hK hw hA (kX9_leave l D g ad r10 _ rfl) (zcwV 0 hts zgoodIn zw_400 zw_401 zw_402 zw_58 zw_403 rfl rfl hX9_leave ⟨Nat.le_of_ble_eq_true rfl, Nat.le_of_ble_eq_true rfl⟩) zO0_5 rfl hl.1 rfl (Nat.le_of_ble_eq_true rfl) dX10_tongues_107 ⟨Nat.zero_le _, Nat.zero_le _⟩ (fun H locs hw => ?_)
        refine lv_aload_n hx hb dX10_tongues_110 rfl (lv_at hl 2 rfl) ?_
        refine z_getc hx hb hts zin_X10 hown hK hw zF0_0_7 (hts _ zw_303) dX10_tongues_111 ?_
        refine z_cVv (As := []) (rest := []) ⟨hx, hb, hml, hown, hts⟩ hK hw hA (kX4_clear l D g ad (fX9_leave r10) _ rfl) (zcwV 0 hts zgoodIn zw_404 zw_405 zw_406 zw_61 zw_407 rfl rfl hX4_clear ⟨Nat.le_of_ble_eq_true rfl, Nat.le_of_ble_eq_true rfl⟩) zO0_8 rfl hl.1 rfl (Nat.le_of_ble_eq_true rfl) dX10_tongues_114 ⟨Nat.zero_le _, Nat.zero_le _⟩ (fun H locs hw => ?_)
        refine lv_aload_n hx hb dX10_tongues_117 rfl (lv_at hl 2 rfl) ?_
        refine z_getc hx hb hts zin_X10 hown hK hw zF0_0_2 (hts _ zw_298) dX10_tongues_118 ?_
        refine z_geti hx hb hts zin_X8 hown hK hw zF0_3_0 (hts _ zw_139) dX10_tongues_121 ?_
        obtain rfl := Option.some.inj h
        exact hret _ _ _ _ hw rfl dX10_tongues_124
      · rw [if_pos t9] at h
        refine lv_bipush (v := (-100)) hx hb dX10_tongues_71 (by decide) ?_
        refine lv_aload_n hx hb dX10_tongues_73 rfl (lv_at hl 2 rfl) ?_
        refine z_getc hx hb hts zin_X10 hown hK hw zF0_0_1 (hts _ zw_297) dX10_tongues_74 ?_
        refine z_cVi (As := []) (rest := [.int (-100 : Int32)]) ⟨hx, hb, hml, hown, hts⟩ hK hw hA (kX5_place l D g ad r7.2 _ rfl) (zcwV 0 hts zgoodIn zw_388 zw_389 zw_390 zw_55 zw_391 rfl rfl hX5_place ⟨Nat.le_of_ble_eq_true rfl, Nat.le_of_ble_eq_true rfl⟩) zO0_2 rfl hl.1 rfl (Nat.le_of_ble_eq_true rfl) dX10_tongues_77 ⟨Nat.zero_le _, Nat.zero_le _⟩ (fun H locs hw => ?_)
        refine lv_isub hx hb dX10_tongues_80 ?_
        obtain rfl := Option.some.inj h
        exact hret _ _ _ _ hw rfl dX10_tongues_81
    · rw [if_neg t4] at h
      refine lv_iload hx hb dX10_tongues_39 (lv_at hl 0 rfl) ?_
      obtain rfl := Option.some.inj h
      exact hret _ _ _ _ hw rfl dX10_tongues_41
  · rw [if_neg t1] at h
    refine lv_iload hx hb dX10_tongues_13 (lv_at hl 0 rfl) ?_
    obtain rfl := Option.some.inj h
    exact hret _ _ _ _ hw rfl dX10_tongues_15
theorem hX10_isWord : yX10_isWord.cls = RX10 ∧ yX10_isWord.cls ≠ "java/lang/invoke/MethodHandle" ∧ yX10_isWord.cls ≠ "java/lang/invoke/VarHandle" ∧ (parseMethodDescriptor yX10_isWord.desc).map (fun d => d.parameters.length) = some 1 := by decide +kernel
set_option maxHeartbeats 4000000 in
set_option maxRecDepth 100000 in
theorem kX10_isWord (l : Launch) (D : va_G) (g : zG) (ad : Nat → Nat) (σ : zSt) (x1 : Int32) (o : Int32) (h : fX10_isWord σ x1 = o) : zMi l D g 0 ad yX10_isWord (Cond.code yX10_isWord cX10_isWord 2 (some .boolean) :: zws) (zRm 0) [.ref (ad 0), .int x1] σ o σ := by
  refine z_enter_i (by decide) (Nat.le_of_ble_eq_true rfl) ?_
  intro p e s m below meth c A ls Q C hw hl hret
  obtain ⟨hx, hb, hml, hown, hts, hK, hA⟩ := id C
  have hown : s.vm.findClass RX10 = some m.cls := hown
  have C : zCx p c cX10_isWord s _ RX10 m 2 A s.heap D g := C
  have hl : lv_has ls 2 [(0, .ref (ad 0)), (1, .int x1)] := hl
  unfold fX10_isWord at h
  refine lv_iload_n hx hb dX10_isWord_0 rfl (lv_at hl 1 rfl) ?_
  refine lv_if_lt (tgt := 19) hx hb dX10_isWord_1 (by decide) (fun t1 => ?_) (fun t1 => ?_)
  · rw [if_pos t1] at h
    refine lv_iconst (v := 0) hx hb dX10_isWord_19 (by decide) ?_
    subst h
    exact hret _ _ _ _ hw zb0 dX10_isWord_20
  · rw [if_neg t1] at h
    refine lv_iload_n hx hb dX10_isWord_4 rfl (lv_at hl 1 rfl) ?_
    refine lv_aload_n hx hb dX10_isWord_5 rfl (lv_at hl 0 rfl) ?_
    refine z_getc hx hb hts zin_X10 hown hK hw zF0_0_2 (hts _ zw_298) dX10_isWord_6 ?_
    refine z_geti hx hb hts zin_X8 hown hK hw zF0_3_0 (hts _ zw_139) dX10_isWord_9 ?_
    refine lv_icmp_ge (tgt := 19) hx hb dX10_isWord_12 (by decide) (fun t2 => ?_) (fun t2 => ?_)
    · rw [if_pos t2] at h
      refine lv_iconst (v := 0) hx hb dX10_isWord_19 (by decide) ?_
      subst h
      exact hret _ _ _ _ hw zb0 dX10_isWord_20
    · rw [if_neg t2] at h
      refine lv_iconst (v := 1) hx hb dX10_isWord_15 (by decide) ?_
      refine lv_goto (tgt := 20) hx hb dX10_isWord_16 (by decide) ?_
      subst h
      exact hret _ _ _ _ hw zb1 dX10_isWord_20
theorem hX10_isWordOrNothing : yX10_isWordOrNothing.cls = RX10 ∧ yX10_isWordOrNothing.cls ≠ "java/lang/invoke/MethodHandle" ∧ yX10_isWordOrNothing.cls ≠ "java/lang/invoke/VarHandle" ∧ (parseMethodDescriptor yX10_isWordOrNothing.desc).map (fun d => d.parameters.length) = some 1 := by decide +kernel
set_option maxHeartbeats 4000000 in
set_option maxRecDepth 100000 in
theorem kX10_isWordOrNothing (l : Launch) (D : va_G) (g : zG) (ad : Nat → Nat) (σ : zSt) (x1 : Int32) (o : Int32) (h : fX10_isWordOrNothing σ x1 = o) : zMi l D g 0 ad yX10_isWordOrNothing (Cond.code yX10_isWordOrNothing cX10_isWordOrNothing 2 (some .boolean) :: zws) (zRm 0) [.ref (ad 0), .int x1] σ o σ := by
  refine z_enter_i (by decide) (Nat.le_of_ble_eq_true rfl) ?_
  intro p e s m below meth c A ls Q C hw hl hret
  obtain ⟨hx, hb, hml, hown, hts, hK, hA⟩ := id C
  have hown : s.vm.findClass RX10 = some m.cls := hown
  have C : zCx p c cX10_isWordOrNothing s _ RX10 m 2 A s.heap D g := C
  have hl : lv_has ls 2 [(0, .ref (ad 0)), (1, .int x1)] := hl
  unfold fX10_isWordOrNothing at h
  refine lv_iload_n hx hb dX10_isWordOrNothing_0 rfl (lv_at hl 1 rfl) ?_
  refine lv_if_lt (tgt := 19) hx hb dX10_isWordOrNothing_1 (by decide) (fun t1 => ?_) (fun t1 => ?_)
  · rw [if_pos t1] at h
    refine lv_iconst (v := 0) hx hb dX10_isWordOrNothing_19 (by decide) ?_
    subst h
    exact hret _ _ _ _ hw zb0 dX10_isWordOrNothing_20
  · rw [if_neg t1] at h
    refine lv_iload_n hx hb dX10_isWordOrNothing_4 rfl (lv_at hl 1 rfl) ?_
    refine lv_aload_n hx hb dX10_isWordOrNothing_5 rfl (lv_at hl 0 rfl) ?_
    refine z_getc hx hb hts zin_X10 hown hK hw zF0_0_2 (hts _ zw_298) dX10_isWordOrNothing_6 ?_
    refine z_geti hx hb hts zin_X8 hown hK hw zF0_3_0 (hts _ zw_139) dX10_isWordOrNothing_9 ?_
    refine lv_icmp_gt (tgt := 19) hx hb dX10_isWordOrNothing_12 (by decide) (fun t2 => ?_) (fun t2 => ?_)
    · rw [if_pos t2] at h
      refine lv_iconst (v := 0) hx hb dX10_isWordOrNothing_19 (by decide) ?_
      subst h
      exact hret _ _ _ _ hw zb0 dX10_isWordOrNothing_20
    · rw [if_neg t2] at h
      refine lv_iconst (v := 1) hx hb dX10_isWordOrNothing_15 (by decide) ?_
      refine lv_goto (tgt := 20) hx hb dX10_isWordOrNothing_16 (by decide) ?_
      subst h
      exact hret _ _ _ _ hw zb1 dX10_isWordOrNothing_20
theorem hX10_isWay : yX10_isWay.cls ≠ "java/lang/invoke/MethodHandle" ∧ yX10_isWay.cls ≠ "java/lang/invoke/VarHandle" ∧ (parseMethodDescriptor yX10_isWay.desc).map (fun d => d.parameters.length) = some 1 := by decide +kernel
set_option maxHeartbeats 4000000 in
set_option maxRecDepth 100000 in
theorem kX10_isWay (l : Launch) (D : va_G) (g : zG) (ad : Nat → Nat) (σ : zSt) (x0 : Int32) (o : Int32) (h : fX10_isWay x0 = o) : zMi l D g 0 ad yX10_isWay (Cond.code yX10_isWay cX10_isWay 1 (some .boolean) :: zws) (zRm 0) [.int x0] σ o σ := by
  refine z_enter_i (by decide) (Nat.le_of_ble_eq_true rfl) ?_
  intro p e s m below meth c A ls Q C hw hl hret
  obtain ⟨hx, hb, hml, hown, hts, hK, hA⟩ := id C
  have hown : s.vm.findClass RX10 = some m.cls := hown
  have C : zCx p c cX10_isWay s _ RX10 m 1 A s.heap D g := C
  have hl : lv_has ls 1 [(0, .int x0)] := hl
  unfold fX10_isWay at h
  refine lv_iload_n hx hb dX10_isWay_0 rfl (lv_at hl 0 rfl) ?_
  refine lv_if_lt (tgt := 13) hx hb dX10_isWay_1 (by decide) (fun t1 => ?_) (fun t1 => ?_)
  · rw [if_pos t1] at h
    refine lv_iconst (v := 0) hx hb dX10_isWay_13 (by decide) ?_
    subst h
    exact hret _ _ _ _ hw zb0 dX10_isWay_14
  · rw [if_neg t1] at h
    refine lv_iload_n hx hb dX10_isWay_4 rfl (lv_at hl 0 rfl) ?_
    refine lv_iconst (v := 2) hx hb dX10_isWay_5 (by decide) ?_
    refine lv_icmp_ge (tgt := 13) hx hb dX10_isWay_6 (by decide) (fun t2 => ?_) (fun t2 => ?_)
    · rw [if_pos t2] at h
      refine lv_iconst (v := 0) hx hb dX10_isWay_13 (by decide) ?_
      subst h
      exact hret _ _ _ _ hw zb0 dX10_isWay_14
    · rw [if_neg t2] at h
      refine lv_iconst (v := 1) hx hb dX10_isWay_9 (by decide) ?_
      refine lv_goto (tgt := 14) hx hb dX10_isWay_10 (by decide) ?_
      subst h
      exact hret _ _ _ _ hw zb1 dX10_isWay_14
theorem hX10_becomes : yX10_becomes.cls = RX10 ∧ yX10_becomes.cls ≠ "java/lang/invoke/MethodHandle" ∧ yX10_becomes.cls ≠ "java/lang/invoke/VarHandle" ∧ (parseMethodDescriptor yX10_becomes.desc).map (fun d => d.parameters.length) = some 3 := by decide +kernel
set_option maxHeartbeats 4000000 in
set_option maxRecDepth 100000 in
theorem kX10_becomes (l : Launch) (D : va_G) (g : zG) (ad : Nat → Nat) (σ : zSt) (x1 : Int32) (x2 : Int32) (x3 : Int32) (o : Int32) (h : fX10_becomes σ x1 x2 x3 = some o) : zMi l D g 0 ad yX10_becomes (Cond.code yX10_becomes cX10_becomes 4 (some .int) :: zws) (zRm 1) [.ref (ad 0), .int x1, .int x2, .int x3] σ o σ := by
  refine z_enter_i (by decide) (Nat.le_of_ble_eq_true rfl) ?_
  intro p e s m below meth c A ls Q C hw hl hret
  obtain ⟨hx, hb, hml, hown, hts, hK, hA⟩ := id C
  have hown : s.vm.findClass RX10 = some m.cls := hown
  have C : zCx p c cX10_becomes s _ RX10 m 4 A s.heap D g := C
  have hl : lv_has ls 4 [(0, .ref (ad 0)), (1, .int x1), (2, .int x2), (3, .int x3)] := hl
  unfold fX10_becomes at h
  refine lv_aload_n hx hb dX10_becomes_0 rfl (lv_at hl 0 rfl) ?_
  refine lv_iload_n hx hb dX10_becomes_1 rfl (lv_at hl 2 rfl) ?_
  refine z_cVi (As := [.int x2]) (rest := []) ⟨hx, hb, hml, hown, hts⟩ hK hw hA (kX10_isWord l D g ad σ x2 _ rfl) (zcwV 1 hts zgoodIn zw_412 zw_414 zw_8 zw_52 zw_415 rfl rfl hX10_isWord ⟨Nat.le_of_ble_eq_true rfl, Nat.le_of_ble_eq_true rfl⟩) zO0_0 rfl hl.1 rfl (Nat.le_of_ble_eq_true rfl) dX10_becomes_2 ⟨Nat.zero_le _, Nat.zero_le _⟩ (fun H locs hw => ?_)
  refine lv_if_eq (tgt := 16) hx hb dX10_becomes_5 (by decide) (fun t1 => ?_) (fun t1 => ?_)
  · rw [if_pos t1] at h
    refine lv_iconst (v := (-1)) hx hb dX10_becomes_16 (by decide) ?_
    obtain rfl := Option.some.inj h
    exact hret _ _ _ _ hw rfl dX10_becomes_17
  · rw [if_neg t1] at h
    refine lv_aload_n hx hb dX10_becomes_8 rfl (lv_at hl 0 rfl) ?_
    refine lv_iload_n hx hb dX10_becomes_9 rfl (lv_at hl 3 rfl) ?_
    refine z_cVi (As := [.int x3]) (rest := []) ⟨hx, hb, hml, hown, hts⟩ hK hw hA (kX10_isWordOrNothing l D g ad σ x3 _ rfl) (zcwV 1 hts zgoodIn zw_416 zw_418 zw_9 zw_52 zw_419 rfl rfl hX10_isWordOrNothing ⟨Nat.le_of_ble_eq_true rfl, Nat.le_of_ble_eq_true rfl⟩) zO0_0 rfl hl.1 rfl (Nat.le_of_ble_eq_true rfl) dX10_becomes_10 ⟨Nat.zero_le _, Nat.zero_le _⟩ (fun H locs hw => ?_)
    refine lv_if_ne (tgt := 18) hx hb dX10_becomes_13 (by decide) (fun t2 => ?_) (fun t2 => ?_)
    · rw [if_neg t2] at h
      refine lv_iload_n hx hb dX10_becomes_18 rfl (lv_at hl 1 rfl) ?_
      refine z_cSi (As := [.int x1]) (rest := []) ⟨hx, hb, hml, hown, hts⟩ hK hw hA (kX10_isWay l D g ad σ x1 _ rfl) (zcwS 1 hts zgoodIn zw_420 zw_421 zw_52 zw_422 rfl rfl hX10_isWay ⟨Nat.le_of_ble_eq_true rfl, Nat.le_of_ble_eq_true rfl⟩) rfl hl.1 rfl (Nat.le_of_ble_eq_true rfl) dX10_becomes_19 ⟨Nat.zero_le _, Nat.zero_le _⟩ (fun H locs hw => ?_)
      refine lv_if_eq (tgt := 38) hx hb dX10_becomes_22 (by decide) (fun t3 => ?_) (fun t3 => ?_)
      · rw [if_pos t3] at h
        refine lv_bipush (v := (-2)) hx hb dX10_becomes_38 (by decide) ?_
        obtain rfl := Option.some.inj h
        exact hret _ _ _ _ hw rfl dX10_becomes_40
      · rw [if_neg t3] at h
        refine lv_aload_n hx hb dX10_becomes_25 rfl (lv_at hl 0 rfl) ?_
        refine z_getc hx hb hts zin_X10 hown hK hw zF0_0_2 (hts _ zw_298) dX10_becomes_26 ?_
        refine lv_iload_n hx hb dX10_becomes_29 rfl (lv_at hl 1 rfl) ?_
        refine lv_iload_n hx hb dX10_becomes_30 rfl (lv_at hl 2 rfl) ?_
        refine lv_iload_n hx hb dX10_becomes_31 rfl (lv_at hl 3 rfl) ?_
        obtain ⟨r4, e5, h⟩ := zbind h
        refine z_cVi (As := [.int x1, .int x2, .int x3]) (rest := []) ⟨hx, hb, hml, hown, hts⟩ hK hw hA (kX8_twelfths l D g ad σ x1 x2 x3 r4 e5) (zcwV 3 hts zgoodIn zw_423 zw_424 zw_425 zw_56 zw_426 rfl rfl hX8_twelfths ⟨Nat.le_of_ble_eq_true rfl, Nat.le_of_ble_eq_true rfl⟩) zO0_3 rfl hl.1 rfl (Nat.le_of_ble_eq_true rfl) dX10_becomes_32 ⟨Nat.zero_le _, Nat.zero_le _⟩ (fun H locs hw => ?_)
        refine lv_goto (tgt := 40) hx hb dX10_becomes_35 (by decide) ?_
        obtain rfl := Option.some.inj h
        exact hret _ _ _ _ hw rfl dX10_becomes_40
    · rw [if_pos t2] at h
      refine lv_iconst (v := (-1)) hx hb dX10_becomes_16 (by decide) ?_
      obtain rfl := Option.some.inj h
      exact hret _ _ _ _ hw rfl dX10_becomes_17
