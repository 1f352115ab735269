/-! walks: X10_copy, X10_tell, X10_pay, X10_as, X10_trace, X10_fault, X10_many -/
theorem hX10_copy : yX10_copy.cls = RX10 ∧ yX10_copy.cls ≠ "java/lang/invoke/MethodHandle" ∧ yX10_copy.cls ≠ "java/lang/invoke/VarHandle" ∧ (parseMethodDescriptor yX10_copy.desc).map (fun d => d.parameters.length) = some 5 := by decide +kernel
set_option maxHeartbeats 4000000 in
set_option maxRecDepth 100000 in
theorem kX10_copy (l : Launch) (D : va_G) (g : zG) (ad : Nat → Nat) (σ : zSt) (x1 : Int32) (x2 : Int32) (x3 : Int32) (x4 : Int32) (x5 : Int32) (o : Int32 × zSt) (h : fX10_copy σ x1 x2 x3 x4 x5 = some o) : zMi l D g 0 ad yX10_copy (Cond.code yX10_copy cX10_copy 7 (some .int) :: zws) (zRm 2) [.ref (ad 0), .int x1, .int x2, .int x3, .int x4, .int x5] σ o.1 o.2 := by
  refine z_enter_i (by decide) (Nat.le_of_ble_eq_true rfl) ?_
  intro p e s m below meth c A ls Q C hw hl hret
  obtain ⟨hx, hb, hml, hown, hts, hK, hA⟩ := id C
  have hown : s.vm.findClass RX10 = some m.cls := hown
  have C : zCx p c cX10_copy s _ RX10 m 7 A s.heap D g := C
  have hl : lv_has ls 7 [(0, .ref (ad 0)), (1, .int x1), (2, .int x2), (3, .int x3), (4, .int x4), (5, .int x5)] := hl
  unfold fX10_copy at h
  refine lv_aload_n hx hb dX10_copy_0 rfl (lv_at hl 0 rfl) ?_
  refine lv_iconst (v := 0) hx hb dX10_copy_1 (by decide) ?_
  refine z_puti hx hb hts zin_X10 tyX10_ok nmX10 hown hK hw zF0_0_10 (hts _ zw_306) zY0_0_10 dX10_copy_2 (fun H locs hw => ?_)
  refine lv_aload_n hx hb dX10_copy_5 rfl (lv_at hl 0 rfl) ?_
  refine z_getc hx hb hts zin_X10 hown hK hw zF0_0_0 (hts _ zw_296) dX10_copy_6 ?_
  refine lv_iload_n hx hb dX10_copy_9 rfl (lv_at hl 1 rfl) ?_
  refine z_cVi (As := [.int x1]) (rest := []) ⟨hx, hb, hml, hown, hts⟩ hK hw hA (kX6_has l D g ad (zwI σ 0 10 (0 : Int32)) x1 _ rfl) (zcwV 1 hts zgoodIn zw_338 zw_339 zw_340 zw_53 zw_341 rfl rfl hX6_has ⟨Nat.le_of_ble_eq_true rfl, Nat.le_of_ble_eq_true rfl⟩) zO0_1 rfl hl.1 rfl (Nat.le_of_ble_eq_true rfl) dX10_copy_10 ⟨Nat.zero_le _, Nat.zero_le _⟩ (fun H locs hw => ?_)
  refine lv_if_eq (tgt := 27) hx hb dX10_copy_13 (by decide) (fun t1 => ?_) (fun t1 => ?_)
  · rw [if_pos t1] at h
    refine lv_iconst (v := (-1)) hx hb dX10_copy_27 (by decide) ?_
    obtain rfl := Option.some.inj h
    exact hret _ _ _ _ hw rfl dX10_copy_28
  · rw [if_neg t1] at h
    refine lv_aload_n hx hb dX10_copy_16 rfl (lv_at hl 0 rfl) ?_
    refine z_getc hx hb hts zin_X10 hown hK hw zF0_0_0 (hts _ zw_296) dX10_copy_17 ?_
    refine lv_iload_n hx hb dX10_copy_20 rfl (lv_at hl 3 rfl) ?_
    refine z_cVi (As := [.int x3]) (rest := []) ⟨hx, hb, hml, hown, hts⟩ hK hw hA (kX6_has l D g ad (zwI σ 0 10 (0 : Int32)) x3 _ rfl) (zcwV 1 hts zgoodIn zw_338 zw_339 zw_340 zw_53 zw_341 rfl rfl hX6_has ⟨Nat.le_of_ble_eq_true rfl, Nat.le_of_ble_eq_true rfl⟩) zO0_1 rfl hl.1 rfl (Nat.le_of_ble_eq_true rfl) dX10_copy_21 ⟨Nat.zero_le _, Nat.zero_le _⟩ (fun H locs hw => ?_)
    refine lv_if_ne (tgt := 29) hx hb dX10_copy_24 (by decide) (fun t2 => ?_) (fun t2 => ?_)
    · rw [if_neg t2] at h
      refine lv_aload_n hx hb dX10_copy_29 rfl (lv_at hl 0 rfl) ?_
      refine lv_aload_n hx hb dX10_copy_30 rfl (lv_at hl 0 rfl) ?_
      refine z_getc hx hb hts zin_X10 hown hK hw zF0_0_0 (hts _ zw_296) dX10_copy_31 ?_
      refine lv_iload_n hx hb dX10_copy_34 rfl (lv_at hl 1 rfl) ?_
      refine lv_iload_n hx hb dX10_copy_35 rfl (lv_at hl 2 rfl) ?_
      refine lv_iload_n hx hb dX10_copy_36 rfl (lv_at hl 3 rfl) ?_
      refine lv_iload hx hb dX10_copy_37 (lv_at hl 4 rfl) ?_
      refine lv_iload hx hb dX10_copy_39 (lv_at hl 5 rfl) ?_
      obtain ⟨r3, e4, h⟩ := zbind h
      refine z_cVi (As := [.int x1, .int x2, .int x3, .int x4, .int x5]) (rest := [.ref (ad 0)]) ⟨hx, hb, hml, hown, hts⟩ hK hw hA (kX6_faultOfCopy l D g ad (zwI σ 0 10 (0 : Int32)) x1 x2 x3 x4 x5 r3 e4) (zcwV 5 hts zgoodIn zw_777 zw_778 zw_779 zw_53 zw_780 rfl rfl hX6_faultOfCopy ⟨Nat.le_of_ble_eq_true rfl, Nat.le_of_ble_eq_true rfl⟩) zO0_1 rfl hl.1 rfl (Nat.le_of_ble_eq_true rfl) dX10_copy_41 ⟨Nat.zero_le _, Nat.zero_le _⟩ (fun H locs hw => ?_)
      refine z_cVi (As := [.int r3]) (rest := []) ⟨hx, hb, hml, hown, hts⟩ hK hw hA (kX10_comeTo l D g ad (zwI σ 0 10 (0 : Int32)) r3 _ rfl) (zcwV 1 hts zgoodIn zw_357 zw_359 zw_2 zw_52 zw_360 rfl rfl hX10_comeTo ⟨Nat.le_of_ble_eq_true rfl, Nat.le_of_ble_eq_true rfl⟩) zO0_0 rfl hl.1 rfl (Nat.le_of_ble_eq_true rfl) dX10_copy_44 ⟨Nat.zero_le _, Nat.zero_le _⟩ (fun H locs hw => ?_)
      refine lv_istore (lv' := [(6, .int ((fX10_comeTo (zwI σ 0 10 (0 : Int32)) r3).1)), (0, .ref (ad 0)), (1, .int x1), (2, .int x2), (3, .int x3), (4, .int x4), (5, .int x5)]) hx hb dX10_copy_47 hl (by decide) rfl (fun ls hl => ?_)
      refine lv_iload hx hb dX10_copy_49 (lv_at hl 0 rfl) ?_
      refine lv_if_eq (tgt := 57) hx hb dX10_copy_51 (by decide) (fun t5 => ?_) (fun t5 => ?_)
      · rw [if_pos t5] at h
        refine lv_aload_n hx hb dX10_copy_57 rfl (lv_at hl 1 rfl) ?_
        refine z_getc hx hb hts zin_X10 hown hK hw zF0_0_0 (hts _ zw_296) dX10_copy_58 ?_
        refine z_getc hx hb hts zin_X6 hown hK hw zF0_1_0 (hts _ zw_87) dX10_copy_61 ?_
        refine lv_iload_n hx hb dX10_copy_64 rfl (lv_at hl 2 rfl) ?_
        obtain ⟨q6, e7, h⟩ := zbind h
        refine z_aald hx hb hK hw e7 dX10_copy_65 ?_
        refine lv_iload_n hx hb dX10_copy_66 rfl (lv_at hl 3 rfl) ?_
        refine lv_aload_n hx hb dX10_copy_67 rfl (lv_at hl 1 rfl) ?_
        refine z_getc hx hb hts zin_X10 hown hK hw zF0_0_0 (hts _ zw_296) dX10_copy_68 ?_
        refine z_getc hx hb hts zin_X6 hown hK hw zF0_1_0 (hts _ zw_87) dX10_copy_71 ?_
        refine lv_iload_n hx hb dX10_copy_74 rfl (lv_at hl 4 rfl) ?_
        obtain ⟨q8, e9, h⟩ := zbind h
        refine z_aald hx hb hK hw e9 dX10_copy_75 ?_
        refine lv_iload hx hb dX10_copy_76 (lv_at hl 5 rfl) ?_
        refine lv_iload hx hb dX10_copy_78 (lv_at hl 6 rfl) ?_
        obtain ⟨s10, e11, h⟩ := zbind h
        refine z_arcp hx hb (hml.trans hl.1.symm) hown (hts _ zw_781) (hts _ zw_783) (hts _ zw_782) (hts _ zw_66) hK hw e11 (Nat.le_of_ble_eq_true rfl) (Nat.le_of_ble_eq_true rfl) dX10_copy_80 (fun H locs hw => ?_)
        refine lv_iload hx hb dX10_copy_83 (lv_at hl 6 rfl) ?_
        obtain rfl := Option.some.inj h
        exact hret _ _ _ _ hw rfl dX10_copy_85
      · rw [if_neg t5] at h
        refine lv_iload hx hb dX10_copy_54 (lv_at hl 0 rfl) ?_
        obtain rfl := Option.some.inj h
        exact hret _ _ _ _ hw rfl dX10_copy_56
    · rw [if_pos t2] at h
      refine lv_iconst (v := (-1)) hx hb dX10_copy_27 (by decide) ?_
      obtain rfl := Option.some.inj h
      exact hret _ _ _ _ hw rfl dX10_copy_28
theorem hX10_tell : yX10_tell.cls = RX10 ∧ yX10_tell.cls ≠ "java/lang/invoke/MethodHandle" ∧ yX10_tell.cls ≠ "java/lang/invoke/VarHandle" ∧ (parseMethodDescriptor yX10_tell.desc).map (fun d => d.parameters.length) = some 1 := by decide +kernel
set_option maxHeartbeats 4000000 in
set_option maxRecDepth 100000 in
theorem kX10_tell (l : Launch) (D : va_G) (g : zG) (ad : Nat → Nat) (σ : zSt) (x1 : Int32) (o : Int32 × zSt) (h : fX10_tell σ x1 = some o) : zMi l D g 0 ad yX10_tell (Cond.code yX10_tell cX10_tell 2 (some .int) :: zws) (zRm 5) [.ref (ad 0), .int x1] σ o.1 o.2 := by
  refine z_enter_i (by decide) (Nat.le_of_ble_eq_true rfl) ?_
  intro p e s m below meth c A ls Q C hw hl hret
  obtain ⟨hx, hb, hml, hown, hts, hK, hA⟩ := id C
  have hown : s.vm.findClass RX10 = some m.cls := hown
  have C : zCx p c cX10_tell s _ RX10 m 2 A s.heap D g := C
  have hl : lv_has ls 2 [(0, .ref (ad 0)), (1, .int x1)] := hl
  unfold fX10_tell at h
  refine lv_aload_n hx hb dX10_tell_0 rfl (lv_at hl 0 rfl) ?_
  refine z_getc hx hb hts zin_X10 hown hK hw zF0_0_3 (hts _ zw_299) dX10_tell_1 ?_
  refine lv_iload_n hx hb dX10_tell_4 rfl (lv_at hl 1 rfl) ?_
  refine z_cVi (As := [.int x1]) (rest := []) ⟨hx, hb, hml, hown, hts⟩ hK hw hA (kX2_has l D g ad σ x1 _ rfl) (zcwV 1 hts zgoodIn zw_466 zw_467 zw_468 zw_57 zw_469 rfl rfl hX2_has ⟨Nat.le_of_ble_eq_true rfl, Nat.le_of_ble_eq_true rfl⟩) zO0_4 rfl hl.1 rfl (Nat.le_of_ble_eq_true rfl) dX10_tell_5 ⟨Nat.zero_le _, Nat.zero_le _⟩ (fun H locs hw => ?_)
  refine lv_if_eq (tgt := 22) hx hb dX10_tell_8 (by decide) (fun t1 => ?_) (fun t1 => ?_)
  · rw [if_pos t1] at h
    refine lv_iconst (v := (-1)) hx hb dX10_tell_22 (by decide) ?_
    obtain rfl := Option.some.inj h
    exact hret _ _ _ _ hw rfl dX10_tell_23
  · rw [if_neg t1] at h
    refine lv_aload_n hx hb dX10_tell_11 rfl (lv_at hl 0 rfl) ?_
    refine z_getc hx hb hts zin_X10 hown hK hw zF0_0_3 (hts _ zw_299) dX10_tell_12 ?_
    refine lv_iload_n hx hb dX10_tell_15 rfl (lv_at hl 1 rfl) ?_
    obtain ⟨r2, e3, h⟩ := zbind h
    refine z_cVi (As := [.int x1]) (rest := []) ⟨hx, hb, hml, hown, hts⟩ hK hw hA (kX2_told l D g ad σ x1 r2 e3) (zcwV 1 hts zgoodIn zw_788 zw_789 zw_790 zw_57 zw_791 rfl rfl hX2_told ⟨Nat.le_of_ble_eq_true rfl, Nat.le_of_ble_eq_true rfl⟩) zO0_4 rfl hl.1 rfl (Nat.le_of_ble_eq_true rfl) dX10_tell_16 ⟨Nat.zero_le _, Nat.zero_le _⟩ (fun H locs hw => ?_)
    refine lv_goto (tgt := 23) hx hb dX10_tell_19 (by decide) ?_
    obtain rfl := Option.some.inj h
    exact hret _ _ _ _ hw rfl dX10_tell_23
theorem hX10_pay : yX10_pay.cls = RX10 ∧ yX10_pay.cls ≠ "java/lang/invoke/MethodHandle" ∧ yX10_pay.cls ≠ "java/lang/invoke/VarHandle" ∧ (parseMethodDescriptor yX10_pay.desc).map (fun d => d.parameters.length) = some 1 := by decide +kernel
set_option maxHeartbeats 4000000 in
set_option maxRecDepth 100000 in
theorem kX10_pay (l : Launch) (D : va_G) (g : zG) (ad : Nat → Nat) (σ : zSt) (x1 : Int32) (o : Int32 × zSt) (h : fX10_pay σ x1 = some o) : zMi l D g 0 ad yX10_pay (Cond.code yX10_pay cX10_pay 2 (some .int) :: zws) (zRm 2) [.ref (ad 0), .int x1] σ o.1 o.2 := by
  refine z_enter_i (by decide) (Nat.le_of_ble_eq_true rfl) ?_
  intro p e s m below meth c A ls Q C hw hl hret
  obtain ⟨hx, hb, hml, hown, hts, hK, hA⟩ := id C
  have hown : s.vm.findClass RX10 = some m.cls := hown
  have C : zCx p c cX10_pay s _ RX10 m 2 A s.heap D g := C
  have hl : lv_has ls 2 [(0, .ref (ad 0)), (1, .int x1)] := hl
  unfold fX10_pay at h
  refine lv_aload_n hx hb dX10_pay_0 rfl (lv_at hl 0 rfl) ?_
  refine z_getc hx hb hts zin_X10 hown hK hw zF0_0_3 (hts _ zw_299) dX10_pay_1 ?_
  refine lv_iload_n hx hb dX10_pay_4 rfl (lv_at hl 1 rfl) ?_
  refine z_cVi (As := [.int x1]) (rest := []) ⟨hx, hb, hml, hown, hts⟩ hK hw hA (kX2_has l D g ad σ x1 _ rfl) (zcwV 1 hts zgoodIn zw_466 zw_467 zw_468 zw_57 zw_469 rfl rfl hX2_has ⟨Nat.le_of_ble_eq_true rfl, Nat.le_of_ble_eq_true rfl⟩) zO0_4 rfl hl.1 rfl (Nat.le_of_ble_eq_true rfl) dX10_pay_5 ⟨Nat.zero_le _, Nat.zero_le _⟩ (fun H locs hw => ?_)
  refine lv_if_eq (tgt := 22) hx hb dX10_pay_8 (by decide) (fun t1 => ?_) (fun t1 => ?_)
  · rw [if_pos t1] at h
    refine lv_iconst (v := (-1)) hx hb dX10_pay_22 (by decide) ?_
    obtain rfl := Option.some.inj h
    exact hret _ _ _ _ hw rfl dX10_pay_23
  · rw [if_neg t1] at h
    refine lv_aload_n hx hb dX10_pay_11 rfl (lv_at hl 0 rfl) ?_
    refine z_getc hx hb hts zin_X10 hown hK hw zF0_0_3 (hts _ zw_299) dX10_pay_12 ?_
    refine lv_iload_n hx hb dX10_pay_15 rfl (lv_at hl 1 rfl) ?_
    obtain ⟨r2, e3, h⟩ := zbind h
    refine z_cVi (As := [.int x1]) (rest := []) ⟨hx, hb, hml, hown, hts⟩ hK hw hA (kX2_paid l D g ad σ x1 r2 e3) (zcwV 1 hts zgoodIn zw_812 zw_813 zw_814 zw_57 zw_815 rfl rfl hX2_paid ⟨Nat.le_of_ble_eq_true rfl, Nat.le_of_ble_eq_true rfl⟩) zO0_4 rfl hl.1 rfl (Nat.le_of_ble_eq_true rfl) dX10_pay_16 ⟨Nat.zero_le _, Nat.zero_le _⟩ (fun H locs hw => ?_)
    refine lv_goto (tgt := 23) hx hb dX10_pay_19 (by decide) ?_
    obtain rfl := Option.some.inj h
    exact hret _ _ _ _ hw rfl dX10_pay_23
theorem hX10_as : yX10_as.cls = RX10 ∧ yX10_as.cls ≠ "java/lang/invoke/MethodHandle" ∧ yX10_as.cls ≠ "java/lang/invoke/VarHandle" ∧ (parseMethodDescriptor yX10_as.desc).map (fun d => d.parameters.length) = some 2 := by decide +kernel
set_option maxHeartbeats 4000000 in
set_option maxRecDepth 100000 in
theorem kX10_as (l : Launch) (D : va_G) (g : zG) (ad : Nat → Nat) (σ : zSt) (x1 : Int32) (x2 : Int32) (o : Int32 × zSt) (h : fX10_as σ x1 x2 = some o) : zMi l D g 0 ad yX10_as (Cond.code yX10_as cX10_as 3 (some .int) :: zws) (zRm 1) [.ref (ad 0), .int x1, .int x2] σ o.1 o.2 := by
  refine z_enter_i (by decide) (Nat.le_of_ble_eq_true rfl) ?_
  intro p e s m below meth c A ls Q C hw hl hret
  obtain ⟨hx, hb, hml, hown, hts, hK, hA⟩ := id C
  have hown : s.vm.findClass RX10 = some m.cls := hown
  have C : zCx p c cX10_as s _ RX10 m 3 A s.heap D g := C
  have hl : lv_has ls 3 [(0, .ref (ad 0)), (1, .int x1), (2, .int x2)] := hl
  unfold fX10_as at h
  refine lv_aload_n hx hb dX10_as_0 rfl (lv_at hl 0 rfl) ?_
  refine lv_iconst (v := 0) hx hb dX10_as_1 (by decide) ?_
  refine z_puti hx hb hts zin_X10 tyX10_ok nmX10 hown hK hw zF0_0_10 (hts _ zw_306) zY0_0_10 dX10_as_2 (fun H locs hw => ?_)
  refine lv_aload_n hx hb dX10_as_5 rfl (lv_at hl 0 rfl) ?_
  refine z_getc hx hb hts zin_X10 hown hK hw zF0_0_3 (hts _ zw_299) dX10_as_6 ?_
  refine lv_iload_n hx hb dX10_as_9 rfl (lv_at hl 1 rfl) ?_
  refine z_cVi (As := [.int x1]) (rest := []) ⟨hx, hb, hml, hown, hts⟩ hK hw hA (kX2_has l D g ad (zwI σ 0 10 (0 : Int32)) x1 _ rfl) (zcwV 1 hts zgoodIn zw_466 zw_467 zw_468 zw_57 zw_469 rfl rfl hX2_has ⟨Nat.le_of_ble_eq_true rfl, Nat.le_of_ble_eq_true rfl⟩) zO0_4 rfl hl.1 rfl (Nat.le_of_ble_eq_true rfl) dX10_as_10 ⟨Nat.zero_le _, Nat.zero_le _⟩ (fun H locs hw => ?_)
  refine lv_if_ne (tgt := 18) hx hb dX10_as_13 (by decide) (fun t1 => ?_) (fun t1 => ?_)
  · rw [if_neg t1] at h
    refine lv_iload_n hx hb dX10_as_18 rfl (lv_at hl 2 rfl) ?_
    refine z_cSi (As := [.int x2]) (rest := []) ⟨hx, hb, hml, hown, hts⟩ hK hw hA (kX10_isKind l D g ad (zwI σ 0 10 (0 : Int32)) x2 _ rfl) (zcwS 1 hts zgoodIn zw_448 zw_449 zw_52 zw_450 rfl rfl hX10_isKind ⟨Nat.le_of_ble_eq_true rfl, Nat.le_of_ble_eq_true rfl⟩) rfl hl.1 rfl (Nat.le_of_ble_eq_true rfl) dX10_as_19 ⟨Nat.zero_le _, Nat.zero_le _⟩ (fun H locs hw => ?_)
    refine lv_if_ne (tgt := 28) hx hb dX10_as_22 (by decide) (fun t2 => ?_) (fun t2 => ?_)
    · rw [if_neg t2] at h
      refine lv_aload_n hx hb dX10_as_28 rfl (lv_at hl 0 rfl) ?_
      refine z_getc hx hb hts zin_X10 hown hK hw zF0_0_3 (hts _ zw_299) dX10_as_29 ?_
      refine z_getc hx hb hts zin_X2 hown hK hw zF0_4_0 (hts _ zw_157) dX10_as_32 ?_
      refine lv_iload_n hx hb dX10_as_35 rfl (lv_at hl 1 rfl) ?_
      obtain ⟨v3, e4, h⟩ := zbind h
      refine z_iald hx hb hK hw e4 dX10_as_36 ?_
      refine lv_iload_n hx hb dX10_as_37 rfl (lv_at hl 2 rfl) ?_
      refine lv_icmp_ge (tgt := 49) hx hb dX10_as_38 (by decide) (fun t5 => ?_) (fun t5 => ?_)
      · rw [if_pos t5] at h
        refine lv_iconst (v := 1) hx hb dX10_as_49 (by decide) ?_
        obtain rfl := Option.some.inj h
        exact hret _ _ _ _ hw rfl dX10_as_50
      · rw [if_neg t5] at h
        refine lv_aload_n hx hb dX10_as_41 rfl (lv_at hl 0 rfl) ?_
        refine lv_iconst (v := 2) hx hb dX10_as_42 (by decide) ?_
        refine z_cVi (As := [.int (2 : Int32)]) (rest := []) ⟨hx, hb, hml, hown, hts⟩ hK hw hA (kX10_comeTo l D g ad (zwI σ 0 10 (0 : Int32)) (2 : Int32) _ rfl) (zcwV 1 hts zgoodIn zw_357 zw_359 zw_2 zw_52 zw_360 rfl rfl hX10_comeTo ⟨Nat.le_of_ble_eq_true rfl, Nat.le_of_ble_eq_true rfl⟩) zO0_0 rfl hl.1 rfl (Nat.le_of_ble_eq_true rfl) dX10_as_43 ⟨Nat.zero_le _, Nat.zero_le _⟩ (fun H locs hw => ?_)
        refine lv_goto (tgt := 50) hx hb dX10_as_46 (by decide) ?_
        obtain rfl := Option.some.inj h
        exact hret _ _ _ _ hw rfl dX10_as_50
    · rw [if_pos t2] at h
      refine lv_bipush (v := (-2)) hx hb dX10_as_25 (by decide) ?_
      obtain rfl := Option.some.inj h
      exact hret _ _ _ _ hw rfl dX10_as_27
  · rw [if_pos t1] at h
    refine lv_iconst (v := (-1)) hx hb dX10_as_16 (by decide) ?_
    obtain rfl := Option.some.inj h
    exact hret _ _ _ _ hw rfl dX10_as_17
theorem hX10_trace : yX10_trace.cls = RX10 ∧ yX10_trace.cls ≠ "java/lang/invoke/MethodHandle" ∧ yX10_trace.cls ≠ "java/lang/invoke/VarHandle" ∧ (parseMethodDescriptor yX10_trace.desc).map (fun d => d.parameters.length) = some 0 := by decide +kernel
set_option maxHeartbeats 4000000 in
set_option maxRecDepth 100000 in
theorem kX10_trace (l : Launch) (D : va_G) (g : zG) (ad : Nat → Nat) (σ : zSt) (o : Int32) (h : fX10_trace σ = o) : zMi l D g 0 ad yX10_trace (Cond.code yX10_trace cX10_trace 1 (some .int) :: zws) (zRm 0) [.ref (ad 0)] σ o σ := by
  refine z_enter_i (by decide) (Nat.le_of_ble_eq_true rfl) ?_
  intro p e s m below meth c A ls Q C hw hl hret
  obtain ⟨hx, hb, hml, hown, hts, hK, hA⟩ := id C
  have hown : s.vm.findClass RX10 = some m.cls := hown
  have C : zCx p c cX10_trace s _ RX10 m 1 A s.heap D g := C
  have hl : lv_has ls 1 [(0, .ref (ad 0))] := hl
  unfold fX10_trace at h
  refine lv_aload_n hx hb dX10_trace_0 rfl (lv_at hl 0 rfl) ?_
  refine z_getc hx hb hts zin_X10 hown hK hw zF0_0_3 (hts _ zw_299) dX10_trace_1 ?_
  refine z_geti hx hb hts zin_X2 hown hK hw zF0_4_3 (hts _ zw_163) dX10_trace_4 ?_
  subst h
  exact hret _ _ _ _ hw rfl dX10_trace_7
theorem hX10_fault : yX10_fault.cls = RX10 ∧ yX10_fault.cls ≠ "java/lang/invoke/MethodHandle" ∧ yX10_fault.cls ≠ "java/lang/invoke/VarHandle" ∧ (parseMethodDescriptor yX10_fault.desc).map (fun d => d.parameters.length) = some 0 := by decide +kernel
set_option maxHeartbeats 4000000 in
set_option maxRecDepth 100000 in
theorem kX10_fault (l : Launch) (D : va_G) (g : zG) (ad : Nat → Nat) (σ : zSt) (o : Int32) (h : fX10_fault σ = o) : zMi l D g 0 ad yX10_fault (Cond.code yX10_fault cX10_fault 1 (some .int) :: zws) (zRm 0) [.ref (ad 0)] σ o σ := by
  refine z_enter_i (by decide) (Nat.le_of_ble_eq_true rfl) ?_
  intro p e s m below meth c A ls Q C hw hl hret
  obtain ⟨hx, hb, hml, hown, hts, hK, hA⟩ := id C
  have hown : s.vm.findClass RX10 = some m.cls := hown
  have C : zCx p c cX10_fault s _ RX10 m 1 A s.heap D g := C
  have hl : lv_has ls 1 [(0, .ref (ad 0))] := hl
  unfold fX10_fault at h
  refine lv_aload_n hx hb dX10_fault_0 rfl (lv_at hl 0 rfl) ?_
  refine z_geti hx hb hts zin_X10 hown hK hw zF0_0_10 (hts _ zw_306) dX10_fault_1 ?_
  subst h
  exact hret _ _ _ _ hw rfl dX10_fault_4
theorem hX10_many : yX10_many.cls = RX10 ∧ yX10_many.cls ≠ "java/lang/invoke/MethodHandle" ∧ yX10_many.cls ≠ "java/lang/invoke/VarHandle" ∧ (parseMethodDescriptor yX10_many.desc).map (fun d => d.parameters.length) = some 1 := by decide +kernel
set_option maxHeartbeats 4000000 in
set_option maxRecDepth 100000 in
theorem kX10_many (l : Launch) (D : va_G) (g : zG) (ad : Nat → Nat) (σ : zSt) (x1 : Int32) (o : Int32) (h : fX10_many σ x1 = o) : zMi l D g 0 ad yX10_many (Cond.code yX10_many cX10_many 2 (some .int) :: zws) (zRm 0) [.ref (ad 0), .int x1] σ o σ := by
  refine z_enter_i (by decide) (Nat.le_of_ble_eq_true rfl) ?_
  intro p e s m below meth c A ls Q C hw hl hret
  obtain ⟨hx, hb, hml, hown, hts, hK, hA⟩ := id C
  have hown : s.vm.findClass RX10 = some m.cls := hown
  have C : zCx p c cX10_many s _ RX10 m 2 A s.heap D g := C
  have hl : lv_has ls 2 [(0, .ref (ad 0)), (1, .int x1)] := hl
  unfold fX10_many at h
  refine lv_iload_n hx hb dX10_many_0 rfl (lv_at hl 1 rfl) ?_
  by_cases t1 : x1 = (0 : Int32)
  · rw [if_pos t1] at h
    refine lv_tableIn (tgt := 36) hx hb dX10_many_1 (by rw [t1]; decide) (by rw [t1]; decide) (by rw [t1]; rfl) (by decide) ?_
    refine lv_aload_n hx hb dX10_many_36 rfl (lv_at hl 0 rfl) ?_
    refine z_getc hx hb hts zin_X10 hown hK hw zF0_0_2 (hts _ zw_298) dX10_many_37 ?_
    refine z_geti hx hb hts zin_X8 hown hK hw zF0_3_0 (hts _ zw_139) dX10_many_40 ?_
    subst h
    exact hret _ _ _ _ hw rfl dX10_many_43
  · rw [if_neg t1] at h
    by_cases t2 : x1 = (1 : Int32)
    · rw [if_pos t2] at h
      refine lv_tableIn (tgt := 44) hx hb dX10_many_1 (by rw [t2]; decide) (by rw [t2]; decide) (by rw [t2]; rfl) (by decide) ?_
      refine lv_aload_n hx hb dX10_many_44 rfl (lv_at hl 0 rfl) ?_
      refine z_getc hx hb hts zin_X10 hown hK hw zF0_0_3 (hts _ zw_299) dX10_many_45 ?_
      refine z_geti hx hb hts zin_X2 hown hK hw zF0_4_2 (hts _ zw_161) dX10_many_48 ?_
      subst h
      exact hret _ _ _ _ hw rfl dX10_many_51
    · rw [if_neg t2] at h
      by_cases t3 : x1 = (2 : Int32)
      · rw [if_pos t3] at h
        refine lv_tableIn (tgt := 52) hx hb dX10_many_1 (by rw [t3]; decide) (by rw [t3]; decide) (by rw [t3]; rfl) (by decide) ?_
        refine lv_aload_n hx hb dX10_many_52 rfl (lv_at hl 0 rfl) ?_
        refine z_getc hx hb hts zin_X10 hown hK hw zF0_0_4 (hts _ zw_300) dX10_many_53 ?_
        refine z_geti hx hb hts zin_X9 hown hK hw zF0_5_1 (hts _ zw_184) dX10_many_56 ?_
        refine lv_if_eq (tgt := 66) hx hb dX10_many_59 (by decide) (fun t4 => ?_) (fun t4 => ?_)
        · rw [if_pos t4] at h
          refine lv_iconst (v := 0) hx hb dX10_many_66 (by decide) ?_
          subst h
          exact hret _ _ _ _ hw rfl dX10_many_67
        · rw [if_neg t4] at h
          refine lv_iconst (v := 1) hx hb dX10_many_62 (by decide) ?_
          refine lv_goto (tgt := 67) hx hb dX10_many_63 (by decide) ?_
          subst h
          exact hret _ _ _ _ hw rfl dX10_many_67
      · rw [if_neg t3] at h
        by_cases t5 : x1 = (3 : Int32)
        · rw [if_pos t5] at h
          refine lv_tableIn (tgt := 68) hx hb dX10_many_1 (by rw [t5]; decide) (by rw [t5]; decide) (by rw [t5]; rfl) (by decide) ?_
          refine lv_aload_n hx hb dX10_many_68 rfl (lv_at hl 0 rfl) ?_
          refine z_getc hx hb hts zin_X10 hown hK hw zF0_0_7 (hts _ zw_303) dX10_many_69 ?_
          refine z_geti hx hb hts zin_X4 hown hK hw zF0_8_1 (hts _ zw_245) dX10_many_72 ?_
          subst h
          exact hret _ _ _ _ hw rfl dX10_many_75
        · rw [if_neg t5] at h
          by_cases t6 : x1 = (4 : Int32)
          · rw [if_pos t6] at h
            refine lv_tableIn (tgt := 76) hx hb dX10_many_1 (by rw [t6]; decide) (by rw [t6]; decide) (by rw [t6]; rfl) (by decide) ?_
            refine lv_aload_n hx hb dX10_many_76 rfl (lv_at hl 0 rfl) ?_
            refine z_getc hx hb hts zin_X10 hown hK hw zF0_0_4 (hts _ zw_300) dX10_many_77 ?_
            refine z_geti hx hb hts zin_X9 hown hK hw zF0_5_2 (hts _ zw_186) dX10_many_80 ?_
            subst h
            exact hret _ _ _ _ hw rfl dX10_many_83
          · rw [if_neg t6] at h
            refine lv_tableOut (tgt := 84) hx hb dX10_many_1 (by have at1 := lv_neT (a := 0) t1 (by decide); have at2 := lv_neT (a := 1) t2 (by decide); have at3 := lv_neT (a := 2) t3 (by decide); have at5 := lv_neT (a := 3) t5 (by decide); have at6 := lv_neT (a := 4) t6 (by decide); omega) (by decide) ?_
            refine lv_bipush (v := (-2)) hx hb dX10_many_84 (by decide) ?_
            subst h
            exact hret _ _ _ _ hw rfl dX10_many_86
