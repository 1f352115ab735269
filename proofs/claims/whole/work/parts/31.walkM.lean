/-! walks: X11_truthOf, X11_ofTurn, X11_back, X11_wrong, X11_again, X11_spot, X11_more, X11_less -/
theorem hX11_truthOf : yX11_truthOf.cls = RX11 ∧ yX11_truthOf.cls ≠ "java/lang/invoke/MethodHandle" ∧ yX11_truthOf.cls ≠ "java/lang/invoke/VarHandle" ∧ (parseMethodDescriptor yX11_truthOf.desc).map (fun d => d.parameters.length) = some 1 := by decide +kernel
set_option maxHeartbeats 4000000 in
set_option maxRecDepth 100000 in
theorem kX11_truthOf (l : Launch) (D : va_G) (g : zG) (ad : Nat → Nat) (σ : zSt) (x1 : Int32) (o : Int32) (h : fX11_truthOf σ x1 = some o) : zMi l D g 1 ad yX11_truthOf (Cond.code yX11_truthOf cX11_truthOf 5 (some .int) :: zws) (zRm 5) [.ref (ad 0), .int x1] σ o σ := by
  refine z_enter_i (by decide) (Nat.le_of_ble_eq_true rfl) ?_
  intro p e s m below meth c A ls Q C hw hl hret
  obtain ⟨hx, hb, hml, hown, hts, hK, hA⟩ := id C
  have hown : s.vm.findClass RX11 = some m.cls := hown
  have C : zCx p c cX11_truthOf s _ RX11 m 5 A s.heap D g := C
  have hl : lv_has ls 5 [(0, .ref (ad 0)), (1, .int x1)] := hl
  unfold fX11_truthOf at h
  refine lv_aload_n hx hb dX11_truthOf_0 rfl (lv_at hl 0 rfl) ?_
  refine lv_aload_n hx hb dX11_truthOf_1 rfl (lv_at hl 0 rfl) ?_
  refine z_getc hx hb hts zin_X11 hown hK hw zF1_0_20 (hts _ zw_858) dX11_truthOf_2 ?_
  refine lv_iload_n hx hb dX11_truthOf_5 rfl (lv_at hl 1 rfl) ?_
  obtain ⟨v1, e2, h⟩ := zbind h
  refine z_iald hx hb hK hw e2 dX11_truthOf_6 ?_
  refine lv_aload_n hx hb dX11_truthOf_7 rfl (lv_at hl 0 rfl) ?_
  refine z_getc hx hb hts zin_X11 hown hK hw zF1_0_21 (hts _ zw_859) dX11_truthOf_8 ?_
  refine lv_iload_n hx hb dX11_truthOf_11 rfl (lv_at hl 1 rfl) ?_
  obtain ⟨v3, e4, h⟩ := zbind h
  refine z_iald hx hb hK hw e4 dX11_truthOf_12 ?_
  refine lv_aload_n hx hb dX11_truthOf_13 rfl (lv_at hl 0 rfl) ?_
  refine z_getc hx hb hts zin_X11 hown hK hw zF1_0_22 (hts _ zw_860) dX11_truthOf_14 ?_
  refine lv_iload_n hx hb dX11_truthOf_17 rfl (lv_at hl 1 rfl) ?_
  obtain ⟨v5, e6, h⟩ := zbind h
  refine z_iald hx hb hK hw e6 dX11_truthOf_18 ?_
  refine lv_aload_n hx hb dX11_truthOf_19 rfl (lv_at hl 0 rfl) ?_
  refine z_cVi (As := []) (rest := [.int v5, .int v3, .int v1, .ref (ad 0)]) ⟨hx, hb, hml, hown, hts⟩ hK hw hA (kX11_allWords l D g ad σ _ rfl) (zcwV 0 hts zgoodIn zw_1066 zw_1068 zw_40 zw_64 zw_1069 rfl rfl hX11_allWords ⟨Nat.le_of_ble_eq_true rfl, Nat.le_of_ble_eq_true rfl⟩) zO1_0 rfl hl.1 rfl (Nat.le_of_ble_eq_true rfl) dX11_truthOf_20 ⟨Nat.zero_le _, Nat.zero_le _⟩ (fun H locs hw => ?_)
  refine lv_aload_n hx hb dX11_truthOf_23 rfl (lv_at hl 0 rfl) ?_
  refine z_cVi (As := []) (rest := [.int (fX11_allWords σ), .int v5, .int v3, .int v1, .ref (ad 0)]) ⟨hx, hb, hml, hown, hts⟩ hK hw hA (kX11_allWords l D g ad σ _ rfl) (zcwV 0 hts zgoodIn zw_1066 zw_1068 zw_40 zw_64 zw_1069 rfl rfl hX11_allWords ⟨Nat.le_of_ble_eq_true rfl, Nat.le_of_ble_eq_true rfl⟩) zO1_0 rfl hl.1 rfl (Nat.le_of_ble_eq_true rfl) dX11_truthOf_24 ⟨Nat.zero_le _, Nat.zero_le _⟩ (fun H locs hw => ?_)
  obtain ⟨r7, e8, h⟩ := zbind h
  refine z_cVi (As := [.int v1, .int v3, .int v5, .int (fX11_allWords σ), .int (fX11_allWords σ)]) (rest := []) ⟨hx, hb, hml, hown, hts⟩ hK hw hA (kX11_times l D g ad σ v1 v3 v5 (fX11_allWords σ) (fX11_allWords σ) r7 e8) (zcwV 5 hts zgoodIn zw_1070 zw_1072 zw_41 zw_64 zw_1073 rfl rfl hX11_times ⟨Nat.le_of_ble_eq_true rfl, Nat.le_of_ble_eq_true rfl⟩) zO1_0 rfl hl.1 rfl (Nat.le_of_ble_eq_true rfl) dX11_truthOf_27 ⟨Nat.zero_le _, Nat.zero_le _⟩ (fun H locs hw => ?_)
  refine lv_istore_n (lv' := [(2, .int r7), (0, .ref (ad 0)), (1, .int x1)]) hx hb dX11_truthOf_30 rfl hl (by decide) rfl (fun ls hl => ?_)
  refine lv_iload_n hx hb dX11_truthOf_31 rfl (lv_at hl 0 rfl) ?_
  refine lv_if_ne (tgt := 37) hx hb dX11_truthOf_32 (by decide) (fun t9 => ?_) (fun t9 => ?_)
  · rw [if_neg t9] at h
    refine lv_aload_n hx hb dX11_truthOf_37 rfl (lv_at hl 1 rfl) ?_
    refine lv_aload_n hx hb dX11_truthOf_38 rfl (lv_at hl 1 rfl) ?_
    refine z_getc hx hb hts zin_X11 hown hK hw zF1_0_20 (hts _ zw_858) dX11_truthOf_39 ?_
    refine lv_iload_n hx hb dX11_truthOf_42 rfl (lv_at hl 2 rfl) ?_
    obtain ⟨v10, e11, h⟩ := zbind h
    refine z_iald hx hb hK hw e11 dX11_truthOf_43 ?_
    refine lv_aload_n hx hb dX11_truthOf_44 rfl (lv_at hl 1 rfl) ?_
    refine z_getc hx hb hts zin_X11 hown hK hw zF1_0_21 (hts _ zw_859) dX11_truthOf_45 ?_
    refine lv_iload_n hx hb dX11_truthOf_48 rfl (lv_at hl 2 rfl) ?_
    obtain ⟨v12, e13, h⟩ := zbind h
    refine z_iald hx hb hK hw e13 dX11_truthOf_49 ?_
    refine lv_aload_n hx hb dX11_truthOf_50 rfl (lv_at hl 1 rfl) ?_
    refine z_getc hx hb hts zin_X11 hown hK hw zF1_0_22 (hts _ zw_860) dX11_truthOf_51 ?_
    refine lv_iload_n hx hb dX11_truthOf_54 rfl (lv_at hl 2 rfl) ?_
    obtain ⟨v14, e15, h⟩ := zbind h
    refine z_iald hx hb hK hw e15 dX11_truthOf_55 ?_
    refine lv_aload_n hx hb dX11_truthOf_56 rfl (lv_at hl 1 rfl) ?_
    refine z_cVi (As := []) (rest := [.int v14, .int v12, .int v10, .ref (ad 0)]) ⟨hx, hb, hml, hown, hts⟩ hK hw hA (kX11_allWords l D g ad σ _ rfl) (zcwV 0 hts zgoodIn zw_1066 zw_1068 zw_40 zw_64 zw_1069 rfl rfl hX11_allWords ⟨Nat.le_of_ble_eq_true rfl, Nat.le_of_ble_eq_true rfl⟩) zO1_0 rfl hl.1 rfl (Nat.le_of_ble_eq_true rfl) dX11_truthOf_57 ⟨Nat.zero_le _, Nat.zero_le _⟩ (fun H locs hw => ?_)
    refine lv_aload_n hx hb dX11_truthOf_60 rfl (lv_at hl 1 rfl) ?_
    refine lv_aload_n hx hb dX11_truthOf_61 rfl (lv_at hl 1 rfl) ?_
    refine z_getc hx hb hts zin_X11 hown hK hw zF1_0_22 (hts _ zw_860) dX11_truthOf_62 ?_
    refine lv_iload_n hx hb dX11_truthOf_65 rfl (lv_at hl 2 rfl) ?_
    obtain ⟨v16, e17, h⟩ := zbind h
    refine z_iald hx hb hK hw e17 dX11_truthOf_66 ?_
    obtain ⟨r18, e19, h⟩ := zbind h
    refine z_cVi (As := [.int v16]) (rest := [.int (fX11_allWords σ), .int v14, .int v12, .int v10, .ref (ad 0)]) ⟨hx, hb, hml, hown, hts⟩ hK hw hA (kX11_saidBy l D g ad σ v16 r18 e19) (zcwV 1 hts zgoodIn zw_1090 zw_1092 zw_43 zw_64 zw_1093 rfl rfl hX11_saidBy ⟨Nat.le_of_ble_eq_true rfl, Nat.le_of_ble_eq_true rfl⟩) zO1_0 rfl hl.1 rfl (Nat.le_of_ble_eq_true rfl) dX11_truthOf_67 ⟨Nat.zero_le _, Nat.zero_le _⟩ (fun H locs hw => ?_)
    obtain ⟨r20, e21, h⟩ := zbind h
    refine z_cVi (As := [.int v10, .int v12, .int v14, .int (fX11_allWords σ), .int r18]) (rest := []) ⟨hx, hb, hml, hown, hts⟩ hK hw hA (kX11_times l D g ad σ v10 v12 v14 (fX11_allWords σ) r18 r20 e21) (zcwV 5 hts zgoodIn zw_1070 zw_1072 zw_41 zw_64 zw_1073 rfl rfl hX11_times ⟨Nat.le_of_ble_eq_true rfl, Nat.le_of_ble_eq_true rfl⟩) zO1_0 rfl hl.1 rfl (Nat.le_of_ble_eq_true rfl) dX11_truthOf_70 ⟨Nat.zero_le _, Nat.zero_le _⟩ (fun H locs hw => ?_)
    refine lv_i2l hx hb dX11_truthOf_73 rfl ?_
    refine lv_lstore_n (lv' := [(3, .long r20.toInt64), (2, .int r7), (0, .ref (ad 0)), (1, .int x1)]) hx hb dX11_truthOf_74 rfl hl (by decide) rfl (fun ls hl => ?_)
    refine lv_ldc2 hx hb hown (hts _ zw_1118) dX11_truthOf_75 ?_
    refine lv_lload_n hx hb dX11_truthOf_78 rfl (lv_at hl 0 rfl) ?_
    refine lv_lmul hx hb dX11_truthOf_79 ?_
    refine lv_iload_n hx hb dX11_truthOf_80 rfl (lv_at hl 1 rfl) ?_
    refine lv_i2l hx hb dX11_truthOf_81 rfl ?_
    obtain ⟨v22, e23, h⟩ := zbind h
    refine z_ldiv hx hb e23 dX11_truthOf_82 ?_
    refine lv_l2i hx hb dX11_truthOf_83 rfl ?_
    obtain rfl := Option.some.inj h
    exact hret _ _ _ _ hw rfl dX11_truthOf_84
  · rw [if_pos t9] at h
    refine lv_iconst (v := 0) hx hb dX11_truthOf_35 (by decide) ?_
    obtain rfl := Option.some.inj h
    exact hret _ _ _ _ hw rfl dX11_truthOf_36
theorem hX11_ofTurn : yX11_ofTurn.cls = RX11 ∧ yX11_ofTurn.cls ≠ "java/lang/invoke/MethodHandle" ∧ yX11_ofTurn.cls ≠ "java/lang/invoke/VarHandle" ∧ (parseMethodDescriptor yX11_ofTurn.desc).map (fun d => d.parameters.length) = some 2 := by decide +kernel
set_option maxHeartbeats 4000000 in
set_option maxRecDepth 100000 in
theorem kX11_ofTurn (l : Launch) (D : va_G) (g : zG) (ad : Nat → Nat) (σ : zSt) (x1 : Int32) (x2 : Int32) (o : Int32) (h : fX11_ofTurn σ x1 x2 = some o) : zMi l D g 1 ad yX11_ofTurn (Cond.code yX11_ofTurn cX11_ofTurn 3 (some .int) :: zws) (zRm 6) [.ref (ad 0), .int x1, .int x2] σ o σ := by
  refine z_enter_i (by decide) (Nat.le_of_ble_eq_true rfl) ?_
  intro p e s m below meth c A ls Q C hw hl hret
  obtain ⟨hx, hb, hml, hown, hts, hK, hA⟩ := id C
  have hown : s.vm.findClass RX11 = some m.cls := hown
  have C : zCx p c cX11_ofTurn s _ RX11 m 3 A s.heap D g := C
  have hl : lv_has ls 3 [(0, .ref (ad 0)), (1, .int x1), (2, .int x2)] := hl
  unfold fX11_ofTurn at h
  refine lv_iload_n hx hb dX11_ofTurn_0 rfl (lv_at hl 1 rfl) ?_
  refine lv_if_lt (tgt := 12) hx hb dX11_ofTurn_1 (by decide) (fun t1 => ?_) (fun t1 => ?_)
  · rw [if_pos t1] at h
    refine lv_iconst (v := (-1)) hx hb dX11_ofTurn_12 (by decide) ?_
    obtain rfl := Option.some.inj h
    exact hret _ _ _ _ hw rfl dX11_ofTurn_13
  · rw [if_neg t1] at h
    refine lv_iload_n hx hb dX11_ofTurn_4 rfl (lv_at hl 1 rfl) ?_
    refine lv_aload_n hx hb dX11_ofTurn_5 rfl (lv_at hl 0 rfl) ?_
    refine z_geti hx hb hts zin_X11 hown hK hw zF1_0_19 (hts _ zw_857) dX11_ofTurn_6 ?_
    refine lv_icmp_lt (tgt := 14) hx hb dX11_ofTurn_9 (by decide) (fun t2 => ?_) (fun t2 => ?_)
    · rw [if_pos t2] at h
      refine lv_iload_n hx hb dX11_ofTurn_14 rfl (lv_at hl 2 rfl) ?_
      by_cases t3 : x2 = (0 : Int32)
      · rw [if_pos t3] at h
        refine lv_tableIn (tgt := 52) hx hb dX11_ofTurn_15 (by rw [t3]; decide) (by rw [t3]; decide) (by rw [t3]; rfl) (by decide) ?_
        refine lv_aload_n hx hb dX11_ofTurn_52 rfl (lv_at hl 0 rfl) ?_
        refine z_getc hx hb hts zin_X11 hown hK hw zF1_0_20 (hts _ zw_858) dX11_ofTurn_53 ?_
        refine lv_iload_n hx hb dX11_ofTurn_56 rfl (lv_at hl 1 rfl) ?_
        obtain ⟨v4, e5, h⟩ := zbind h
        refine z_iald hx hb hK hw e5 dX11_ofTurn_57 ?_
        obtain rfl := Option.some.inj h
        exact hret _ _ _ _ hw rfl dX11_ofTurn_58
      · rw [if_neg t3] at h
        by_cases t6 : x2 = (1 : Int32)
        · rw [if_pos t6] at h
          refine lv_tableIn (tgt := 59) hx hb dX11_ofTurn_15 (by rw [t6]; decide) (by rw [t6]; decide) (by rw [t6]; rfl) (by decide) ?_
          refine lv_aload_n hx hb dX11_ofTurn_59 rfl (lv_at hl 0 rfl) ?_
          refine z_getc hx hb hts zin_X11 hown hK hw zF1_0_21 (hts _ zw_859) dX11_ofTurn_60 ?_
          refine lv_iload_n hx hb dX11_ofTurn_63 rfl (lv_at hl 1 rfl) ?_
          obtain ⟨v7, e8, h⟩ := zbind h
          refine z_iald hx hb hK hw e8 dX11_ofTurn_64 ?_
          obtain rfl := Option.some.inj h
          exact hret _ _ _ _ hw rfl dX11_ofTurn_65
        · rw [if_neg t6] at h
          by_cases t9 : x2 = (2 : Int32)
          · rw [if_pos t9] at h
            refine lv_tableIn (tgt := 66) hx hb dX11_ofTurn_15 (by rw [t9]; decide) (by rw [t9]; decide) (by rw [t9]; rfl) (by decide) ?_
            refine lv_aload_n hx hb dX11_ofTurn_66 rfl (lv_at hl 0 rfl) ?_
            refine z_getc hx hb hts zin_X11 hown hK hw zF1_0_22 (hts _ zw_860) dX11_ofTurn_67 ?_
            refine lv_iload_n hx hb dX11_ofTurn_70 rfl (lv_at hl 1 rfl) ?_
            obtain ⟨v10, e11, h⟩ := zbind h
            refine z_iald hx hb hK hw e11 dX11_ofTurn_71 ?_
            obtain rfl := Option.some.inj h
            exact hret _ _ _ _ hw rfl dX11_ofTurn_72
          · rw [if_neg t9] at h
            by_cases t12 : x2 = (3 : Int32)
            · rw [if_pos t12] at h
              refine lv_tableIn (tgt := 73) hx hb dX11_ofTurn_15 (by rw [t12]; decide) (by rw [t12]; decide) (by rw [t12]; rfl) (by decide) ?_
              refine lv_aload_n hx hb dX11_ofTurn_73 rfl (lv_at hl 0 rfl) ?_
              refine z_getc hx hb hts zin_X11 hown hK hw zF1_0_23 (hts _ zw_861) dX11_ofTurn_74 ?_
              refine lv_iload_n hx hb dX11_ofTurn_77 rfl (lv_at hl 1 rfl) ?_
              obtain ⟨v13, e14, h⟩ := zbind h
              refine z_iald hx hb hK hw e14 dX11_ofTurn_78 ?_
              obtain rfl := Option.some.inj h
              exact hret _ _ _ _ hw rfl dX11_ofTurn_79
            · rw [if_neg t12] at h
              by_cases t15 : x2 = (4 : Int32)
              · rw [if_pos t15] at h
                refine lv_tableIn (tgt := 80) hx hb dX11_ofTurn_15 (by rw [t15]; decide) (by rw [t15]; decide) (by rw [t15]; rfl) (by decide) ?_
                refine lv_aload_n hx hb dX11_ofTurn_80 rfl (lv_at hl 0 rfl) ?_
                refine z_getc hx hb hts zin_X11 hown hK hw zF1_0_24 (hts _ zw_862) dX11_ofTurn_81 ?_
                refine lv_iload_n hx hb dX11_ofTurn_84 rfl (lv_at hl 1 rfl) ?_
                obtain ⟨v16, e17, h⟩ := zbind h
                refine z_iald hx hb hK hw e17 dX11_ofTurn_85 ?_
                obtain rfl := Option.some.inj h
                exact hret _ _ _ _ hw rfl dX11_ofTurn_86
              · rw [if_neg t15] at h
                by_cases t18 : x2 = (5 : Int32)
                · rw [if_pos t18] at h
                  refine lv_tableIn (tgt := 87) hx hb dX11_ofTurn_15 (by rw [t18]; decide) (by rw [t18]; decide) (by rw [t18]; rfl) (by decide) ?_
                  refine lv_aload_n hx hb dX11_ofTurn_87 rfl (lv_at hl 0 rfl) ?_
                  refine lv_iload_n hx hb dX11_ofTurn_88 rfl (lv_at hl 1 rfl) ?_
                  obtain ⟨r19, e20, h⟩ := zbind h
                  refine z_cVi (As := [.int x1]) (rest := []) ⟨hx, hb, hml, hown, hts⟩ hK hw hA (kX11_truthOf l D g ad σ x1 r19 e20) (zcwV 1 hts zgoodIn zw_1114 zw_1116 zw_45 zw_64 zw_1117 rfl rfl hX11_truthOf ⟨Nat.le_of_ble_eq_true rfl, Nat.le_of_ble_eq_true rfl⟩) zO1_0 rfl hl.1 rfl (Nat.le_of_ble_eq_true rfl) dX11_ofTurn_89 ⟨Nat.zero_le _, Nat.zero_le _⟩ (fun H locs hw => ?_)
                  obtain rfl := Option.some.inj h
                  exact hret _ _ _ _ hw rfl dX11_ofTurn_92
                · rw [if_neg t18] at h
                  refine lv_tableOut (tgt := 93) hx hb dX11_ofTurn_15 (by have at3 := lv_neT (a := 0) t3 (by decide); have at6 := lv_neT (a := 1) t6 (by decide); have at9 := lv_neT (a := 2) t9 (by decide); have at12 := lv_neT (a := 3) t12 (by decide); have at15 := lv_neT (a := 4) t15 (by decide); have at18 := lv_neT (a := 5) t18 (by decide); omega) (by decide) ?_
                  refine lv_bipush (v := (-2)) hx hb dX11_ofTurn_93 (by decide) ?_
                  obtain rfl := Option.some.inj h
                  exact hret _ _ _ _ hw rfl dX11_ofTurn_95
    · rw [if_neg t2] at h
      refine lv_iconst (v := (-1)) hx hb dX11_ofTurn_12 (by decide) ?_
      obtain rfl := Option.some.inj h
      exact hret _ _ _ _ hw rfl dX11_ofTurn_13
theorem hX11_back : yX11_back.cls = RX11 ∧ yX11_back.cls ≠ "java/lang/invoke/MethodHandle" ∧ yX11_back.cls ≠ "java/lang/invoke/VarHandle" ∧ (parseMethodDescriptor yX11_back.desc).map (fun d => d.parameters.length) = some 1 := by decide +kernel
set_option maxHeartbeats 4000000 in
set_option maxRecDepth 100000 in
theorem kX11_back (l : Launch) (D : va_G) (g : zG) (ad : Nat → Nat) (σ : zSt) (x1 : Int32) (o : Int32 × zSt) (h : fX11_back σ x1 = o) : zMi l D g 1 ad yX11_back (Cond.code yX11_back cX11_back 2 (some .int) :: zws) (zRm 1) [.ref (ad 0), .int x1] σ o.1 o.2 := by
  refine z_enter_i (by decide) (Nat.le_of_ble_eq_true rfl) ?_
  intro p e s m below meth c A ls Q C hw hl hret
  obtain ⟨hx, hb, hml, hown, hts, hK, hA⟩ := id C
  have hown : s.vm.findClass RX11 = some m.cls := hown
  have C : zCx p c cX11_back s _ RX11 m 2 A s.heap D g := C
  have hl : lv_has ls 2 [(0, .ref (ad 0)), (1, .int x1)] := hl
  unfold fX11_back at h
  refine lv_iload_n hx hb dX11_back_0 rfl (lv_at hl 1 rfl) ?_
  refine lv_iconst (v := 0) hx hb dX11_back_1 (by decide) ?_
  refine lv_aload_n hx hb dX11_back_2 rfl (lv_at hl 0 rfl) ?_
  refine z_geti hx hb hts zin_X11 hown hK hw zF1_0_19 (hts _ zw_857) dX11_back_3 ?_
  refine z_cSi (As := [.int x1, .int (0 : Int32), .int (zI σ 0 19)]) (rest := []) ⟨hx, hb, hml, hown, hts⟩ hK hw hA (kX11_within l D g ad σ x1 (0 : Int32) (zI σ 0 19) _ rfl) (zcwS 3 hts zgoodIn zw_930 zw_931 zw_64 zw_932 rfl rfl hX11_within ⟨Nat.le_of_ble_eq_true rfl, Nat.le_of_ble_eq_true rfl⟩) rfl hl.1 rfl (Nat.le_of_ble_eq_true rfl) dX11_back_6 ⟨Nat.zero_le _, Nat.zero_le _⟩ (fun H locs hw => ?_)
  refine lv_if_ne (tgt := 15) hx hb dX11_back_9 (by decide) (fun t1 => ?_) (fun t1 => ?_)
  · rw [if_neg t1] at h
    refine lv_aload_n hx hb dX11_back_15 rfl (lv_at hl 0 rfl) ?_
    refine lv_dup hx hb dX11_back_16 rfl ?_
    refine z_geti hx hb hts zin_X11 hown hK hw zF1_0_19 (hts _ zw_857) dX11_back_17 ?_
    refine lv_iload_n hx hb dX11_back_20 rfl (lv_at hl 1 rfl) ?_
    refine lv_isub hx hb dX11_back_21 ?_
    refine z_puti hx hb hts zin_X11 tyX11_ok nmX11 hown hK hw zF1_0_19 (hts _ zw_857) zY1_0_19 dX11_back_22 (fun H locs hw => ?_)
    refine lv_aload_n hx hb dX11_back_25 rfl (lv_at hl 0 rfl) ?_
    refine z_geti hx hb hts zin_X11 hown hK hw zF1_0_19 (hts _ zw_857) dX11_back_26 ?_
    subst h
    exact hret _ _ _ _ hw rfl dX11_back_29
  · rw [if_pos t1] at h
    refine lv_bipush (v := (-2)) hx hb dX11_back_12 (by decide) ?_
    subst h
    exact hret _ _ _ _ hw rfl dX11_back_14
set_option maxHeartbeats 4000000 in
set_option maxRecDepth 100000 in
theorem wX11_wrong_30 {p : Program} {l : Launch} {e : Env} {s : State} {m : MethodId} {args : Array Value} {below : List Frame} {meth : Method} {c : Code} {A : Nat → Prop} {H0 : Heap} {Q : State → Prop} {D : va_G} {g : zG} {ad : Nat → Nat} (C : zCx p c cX11_wrong s args RX11 m 9 A H0 D g) (x1 : Int32) (x2 : Int32) (n : Nat) (a : (Int32 × zSt)) (b : (Int32 × zSt)) (h : zLp (fun a => bX11_wrong_30 x1 x2 a.1 a.2) n a = some b) (hk : ∀ (H : Heap) (locs : List Loc) (ls : Array Slot), zH D g 1 ad A H0 b.2 H locs → lv_has ls 9 [(0, .ref (ad 0)), (1, .int x1), (2, .int x2), (3, .int b.1)] → W p l e (zRm 6) s m args below meth c H locs 0 0 Q (F0 m 49 ls [])) : ∀ (H : Heap) (locs : List Loc) (ls : Array Slot), zH D g 1 ad A H0 a.2 H locs → lv_has ls 9 [(0, .ref (ad 0)), (1, .int x1), (2, .int x2), (3, .int a.1)] → W p l e (zRm 6) s m args below meth c H locs 0 0 Q (F0 m 30 ls []) := by
  obtain ⟨hx, hb, hml, hown, hts, hK, hA⟩ := id C
  refine zLp_walk (P := fun (a : (Int32 × zSt)) => ∀ (H : Heap) (locs : List Loc) (ls : Array Slot), zH D g 1 ad A H0 a.2 H locs → lv_has ls 9 [(0, .ref (ad 0)), (1, .int x1), (2, .int x2), (3, .int a.1)] → W p l e (zRm 6) s m args below meth c H locs 0 0 Q (F0 m 30 ls [])) (E := fun (b' : (Int32 × zSt)) => b' = b) ?_ n a b h rfl
  intro a r h hn he H locs ls hw hl
  obtain ⟨x3, σ⟩ := a
  have h : bX11_wrong_30 x1 x2 x3 σ = some r := h
  have hl : lv_has ls 9 [(0, .ref (ad 0)), (1, .int x1), (2, .int x2), (3, .int x3)] := hl
  have hw : zH D g 1 ad A H0 σ H locs := hw
  unfold bX11_wrong_30 at h
  refine lv_iload_n hx hb dX11_wrong_30 rfl (lv_at hl 3 rfl) ?_
  refine lv_bipush (v := 8) hx hb dX11_wrong_31 (by decide) ?_
  refine lv_icmp_ge (tgt := 49) hx hb dX11_wrong_33 (by decide) (fun t1 => ?_) (fun t1 => ?_)
  · rw [if_pos t1] at h
    obtain rfl := Option.some.inj h
    obtain rfl := he _ rfl
    exact hk _ _ _ hw (lv_sub hl [0, 1, 2, 3] rfl)
  · rw [if_neg t1] at h
    refine lv_aload_n hx hb dX11_wrong_36 rfl (lv_at hl 0 rfl) ?_
    refine z_getc hx hb hts zin_X11 hown hK hw zF1_0_25 (hts _ zw_863) dX11_wrong_37 ?_
    refine lv_iload_n hx hb dX11_wrong_40 rfl (lv_at hl 3 rfl) ?_
    refine lv_lconst (v := 0) hx hb dX11_wrong_41 (by decide) ?_
    obtain ⟨s2, e3, h⟩ := zbind h
    refine z_last hx hb hK hw e3 dX11_wrong_42 (fun H locs hw => ?_)
    refine lv_iinc (v := x3 + 1) (lv' := [(3, .int (x3 + 1)), (0, .ref (ad 0)), (1, .int x1), (2, .int x2)]) hx hb dX11_wrong_43 hl (k := 3) rfl rfl (by decide) rfl (fun ls hl => ?_)
    refine lv_goto (tgt := 30) hx hb dX11_wrong_46 (by decide) ?_
    obtain rfl := Option.some.inj h
    exact hn _ rfl _ _ _ hw (lv_sub hl [1, 2, 3, 0] rfl)
set_option maxHeartbeats 4000000 in
set_option maxRecDepth 100000 in
theorem wX11_wrong_86 {p : Program} {l : Launch} {e : Env} {s : State} {m : MethodId} {args : Array Value} {below : List Frame} {meth : Method} {c : Code} {A : Nat → Prop} {H0 : Heap} {Q : State → Prop} {D : va_G} {g : zG} {ad : Nat → Nat} (C : zCx p c cX11_wrong s args RX11 m 9 A H0 D g) (x1 : Int32) (x2 : Int32) (x3 : Int64) (x5 : Int32) (x6 : Int64) (n : Nat) (a : (Int32 × zSt)) (b : (Int32 × zSt)) (h : zLp (fun a => bX11_wrong_86 x1 x2 x3 x5 x6 a.1 a.2) n a = some b) (hk : ∀ (H : Heap) (locs : List Loc) (ls : Array Slot), zH D g 1 ad A H0 b.2 H locs → lv_has ls 9 [(0, .ref (ad 0)), (1, .int x1), (2, .int x2), (3, .long x3), (5, .int x5), (6, .long x6), (8, .int b.1)] → W p l e (zRm 6) s m args below meth c H locs 0 0 Q (F0 m 140 ls [])) : ∀ (H : Heap) (locs : List Loc) (ls : Array Slot), zH D g 1 ad A H0 a.2 H locs → lv_has ls 9 [(0, .ref (ad 0)), (1, .int x1), (2, .int x2), (3, .long x3), (5, .int x5), (6, .long x6), (8, .int a.1)] → W p l e (zRm 6) s m args below meth c H locs 0 0 Q (F0 m 86 ls []) := by
  obtain ⟨hx, hb, hml, hown, hts, hK, hA⟩ := id C
  refine zLp_walk (P := fun (a : (Int32 × zSt)) => ∀ (H : Heap) (locs : List Loc) (ls : Array Slot), zH D g 1 ad A H0 a.2 H locs → lv_has ls 9 [(0, .ref (ad 0)), (1, .int x1), (2, .int x2), (3, .long x3), (5, .int x5), (6, .long x6), (8, .int a.1)] → W p l e (zRm 6) s m args below meth c H locs 0 0 Q (F0 m 86 ls [])) (E := fun (b' : (Int32 × zSt)) => b' = b) ?_ n a b h rfl
  intro a r h hn he H locs ls hw hl
  obtain ⟨x8, σ⟩ := a
  have h : bX11_wrong_86 x1 x2 x3 x5 x6 x8 σ = some r := h
  have hl : lv_has ls 9 [(0, .ref (ad 0)), (1, .int x1), (2, .int x2), (3, .long x3), (5, .int x5), (6, .long x6), (8, .int x8)] := hl
  have hw : zH D g 1 ad A H0 σ H locs := hw
  unfold bX11_wrong_86 at h
  refine lv_iload hx hb dX11_wrong_86 (lv_at hl 6 rfl) ?_
  refine lv_if_lt (tgt := 140) hx hb dX11_wrong_88 (by decide) (fun t1 => ?_) (fun t1 => ?_)
  · rw [if_pos t1] at h
    obtain rfl := Option.some.inj h
    obtain rfl := he _ rfl
    exact hk _ _ _ hw (lv_sub hl [0, 1, 2, 3, 4, 5, 6] rfl)
  · rw [if_neg t1] at h
    refine lv_aload_n hx hb dX11_wrong_91 rfl (lv_at hl 0 rfl) ?_
    refine z_getc hx hb hts zin_X11 hown hK hw zF1_0_25 (hts _ zw_863) dX11_wrong_92 ?_
    refine lv_iload hx hb dX11_wrong_95 (lv_at hl 6 rfl) ?_
    refine lv_aload_n hx hb dX11_wrong_97 rfl (lv_at hl 0 rfl) ?_
    refine z_getc hx hb hts zin_X11 hown hK hw zF1_0_25 (hts _ zw_863) dX11_wrong_98 ?_
    refine lv_iload hx hb dX11_wrong_101 (lv_at hl 6 rfl) ?_
    obtain ⟨v2, e3, h⟩ := zbind h
    refine z_lald hx hb hK hw e3 dX11_wrong_103 ?_
    refine lv_ldc2 hx hb hown (hts _ zw_1118) dX11_wrong_104 ?_
    refine lv_lload hx hb dX11_wrong_107 (lv_at hl 5 rfl) ?_
    refine lv_lsub hx hb dX11_wrong_109 ?_
    refine lv_lmul hx hb dX11_wrong_110 ?_
    refine lv_iload hx hb dX11_wrong_111 (lv_at hl 6 rfl) ?_
    refine lv_if_le (tgt := 131) hx hb dX11_wrong_113 (by decide) (fun t4 => ?_) (fun t4 => ?_)
    · rw [if_pos t4] at h
      refine lv_lconst (v := 0) hx hb dX11_wrong_131 (by decide) ?_
      refine lv_ladd hx hb dX11_wrong_132 ?_
      obtain ⟨s5, e6, h⟩ := zbind h
      refine z_last hx hb hK hw e6 dX11_wrong_133 (fun H locs hw => ?_)
      refine lv_iinc (v := x8 + (-1)) (lv' := [(8, .int (x8 + (-1))), (0, .ref (ad 0)), (1, .int x1), (2, .int x2), (3, .long x3), (5, .int x5), (6, .long x6)]) hx hb dX11_wrong_134 hl (k := 6) rfl rfl (by decide) rfl (fun ls hl => ?_)
      refine lv_goto (tgt := 86) hx hb dX11_wrong_137 (by decide) ?_
      obtain rfl := Option.some.inj h
      exact hn _ rfl _ _ _ hw (lv_sub hl [1, 2, 3, 4, 5, 6, 0] rfl)
    · rw [if_neg t4] at h
      refine lv_aload_n hx hb dX11_wrong_116 rfl (lv_at hl 0 rfl) ?_
      refine z_getc hx hb hts zin_X11 hown hK hw zF1_0_25 (hts _ zw_863) dX11_wrong_117 ?_
      refine lv_iload hx hb dX11_wrong_120 (lv_at hl 6 rfl) ?_
      refine lv_iconst (v := 1) hx hb dX11_wrong_122 (by decide) ?_
      refine lv_isub hx hb dX11_wrong_123 ?_
      obtain ⟨v7, e8, h⟩ := zbind h
      refine z_lald hx hb hK hw e8 dX11_wrong_124 ?_
      refine lv_lload hx hb dX11_wrong_125 (lv_at hl 5 rfl) ?_
      refine lv_lmul hx hb dX11_wrong_127 ?_
      refine lv_goto (tgt := 132) hx hb dX11_wrong_128 (by decide) ?_
      refine lv_ladd hx hb dX11_wrong_132 ?_
      obtain ⟨s9, e10, h⟩ := zbind h
      refine z_last hx hb hK hw e10 dX11_wrong_133 (fun H locs hw => ?_)
      refine lv_iinc (v := x8 + (-1)) (lv' := [(8, .int (x8 + (-1))), (0, .ref (ad 0)), (1, .int x1), (2, .int x2), (3, .long x3), (5, .int x5), (6, .long x6)]) hx hb dX11_wrong_134 hl (k := 6) rfl rfl (by decide) rfl (fun ls hl => ?_)
      refine lv_goto (tgt := 86) hx hb dX11_wrong_137 (by decide) ?_
      obtain rfl := Option.some.inj h
      exact hn _ rfl _ _ _ hw (lv_sub hl [1, 2, 3, 4, 5, 6, 0] rfl)
set_option maxHeartbeats 4000000 in
set_option maxRecDepth 100000 in
theorem wX11_wrong_54 {p : Program} {l : Launch} {e : Env} {s : State} {m : MethodId} {args : Array Value} {below : List Frame} {meth : Method} {c : Code} {A : Nat → Prop} {H0 : Heap} {Q : State → Prop} {D : va_G} {g : zG} {ad : Nat → Nat} (C : zCx p c cX11_wrong s args RX11 m 9 A H0 D g) (x1 : Int32) (x2 : Int32) (n : Nat) (a : (Int64 × Int32 × zSt)) (b : (Int64 × Int32 × zSt)) (h : zLp (fun a => bX11_wrong_54 x1 x2 a.1 a.2.1 a.2.2) n a = some b) (hk : ∀ (H : Heap) (locs : List Loc) (ls : Array Slot), zH D g 1 ad A H0 b.2.2 H locs → lv_has ls 9 [(0, .ref (ad 0)), (1, .int x1), (2, .int x2), (3, .long b.1), (5, .int b.2.1)] → W p l e (zRm 6) s m args below meth c H locs 0 0 Q (F0 m 152 ls [])) : ∀ (H : Heap) (locs : List Loc) (ls : Array Slot), zH D g 1 ad A H0 a.2.2 H locs → lv_has ls 9 [(0, .ref (ad 0)), (1, .int x1), (2, .int x2), (3, .long a.1), (5, .int a.2.1)] → W p l e (zRm 6) s m args below meth c H locs 0 0 Q (F0 m 54 ls []) := by
  obtain ⟨hx, hb, hml, hown, hts, hK, hA⟩ := id C
  refine zLp_walk (P := fun (a : (Int64 × Int32 × zSt)) => ∀ (H : Heap) (locs : List Loc) (ls : Array Slot), zH D g 1 ad A H0 a.2.2 H locs → lv_has ls 9 [(0, .ref (ad 0)), (1, .int x1), (2, .int x2), (3, .long a.1), (5, .int a.2.1)] → W p l e (zRm 6) s m args below meth c H locs 0 0 Q (F0 m 54 ls [])) (E := fun (b' : (Int64 × Int32 × zSt)) => b' = b) ?_ n a b h rfl
  intro a r h hn he H locs ls hw hl
  obtain ⟨x3, x5, σ⟩ := a
  have h : bX11_wrong_54 x1 x2 x3 x5 σ = some r := h
  have hl : lv_has ls 9 [(0, .ref (ad 0)), (1, .int x1), (2, .int x2), (3, .long x3), (5, .int x5)] := hl
  have hw : zH D g 1 ad A H0 σ H locs := hw
  unfold bX11_wrong_54 at h
  refine lv_iload hx hb dX11_wrong_54 (lv_at hl 4 rfl) ?_
  refine lv_aload_n hx hb dX11_wrong_56 rfl (lv_at hl 0 rfl) ?_
  refine z_geti hx hb hts zin_X11 hown hK hw zF1_0_19 (hts _ zw_857) dX11_wrong_57 ?_
  refine lv_icmp_ge (tgt := 152) hx hb dX11_wrong_60 (by decide) (fun t1 => ?_) (fun t1 => ?_)
  · rw [if_pos t1] at h
    obtain rfl := Option.some.inj h
    obtain rfl := he _ rfl
    exact hk _ _ _ hw (lv_sub hl [0, 1, 2, 3, 4] rfl)
  · rw [if_neg t1] at h
    refine lv_aload_n hx hb dX11_wrong_63 rfl (lv_at hl 0 rfl) ?_
    refine z_getc hx hb hts zin_X11 hown hK hw zF1_0_22 (hts _ zw_860) dX11_wrong_64 ?_
    refine lv_iload hx hb dX11_wrong_67 (lv_at hl 4 rfl) ?_
    obtain ⟨v2, e3, h⟩ := zbind h
    refine z_iald hx hb hK hw e3 dX11_wrong_69 ?_
    refine lv_if_ne (tgt := 146) hx hb dX11_wrong_70 (by decide) (fun t4 => ?_) (fun t4 => ?_)
    · rw [if_neg t4] at h
      refine lv_iinc (v := x5 + 1) (lv' := [(5, .int (x5 + 1)), (0, .ref (ad 0)), (1, .int x1), (2, .int x2), (3, .long x3)]) hx hb dX11_wrong_146 hl (k := 4) rfl rfl (by decide) rfl (fun ls hl => ?_)
      refine lv_goto (tgt := 54) hx hb dX11_wrong_149 (by decide) ?_
      obtain rfl := Option.some.inj h
      exact hn _ rfl _ _ _ hw (lv_sub hl [1, 2, 3, 4, 0] rfl)
    · rw [if_pos t4] at h
      refine lv_aload_n hx hb dX11_wrong_73 rfl (lv_at hl 0 rfl) ?_
      refine lv_iload hx hb dX11_wrong_74 (lv_at hl 4 rfl) ?_
      obtain ⟨r5, e6, h⟩ := zbind h
      refine z_cVi (As := [.int x5]) (rest := []) ⟨hx, hb, hml, hown, hts⟩ hK hw hA (kX11_truthOf l D g ad σ x5 r5 e6) (zcwV 1 hts zgoodIn zw_1114 zw_1116 zw_45 zw_64 zw_1117 rfl rfl hX11_truthOf ⟨Nat.le_of_ble_eq_true rfl, Nat.le_of_ble_eq_true rfl⟩) zO1_0 rfl hl.1 rfl (Nat.le_of_ble_eq_true rfl) dX11_wrong_76 ⟨Nat.zero_le _, Nat.zero_le _⟩ (fun H locs hw => ?_)
      refine lv_i2l hx hb dX11_wrong_79 rfl ?_
      refine lv_lstore (lv' := [(6, .long r5.toInt64), (0, .ref (ad 0)), (1, .int x1), (2, .int x2), (3, .long x3), (5, .int x5)]) hx hb dX11_wrong_80 hl (by decide) rfl (fun ls hl => ?_)
      refine lv_bipush (v := 7) hx hb dX11_wrong_82 (by decide) ?_
      refine lv_istore (lv' := [(8, .int (7 : Int32)), (6, .long r5.toInt64), (0, .ref (ad 0)), (1, .int x1), (2, .int x2), (3, .long x3), (5, .int x5)]) hx hb dX11_wrong_84 hl (by decide) rfl (fun ls hl => ?_)
      obtain ⟨b7, e8, h⟩ := zbind h
      refine wX11_wrong_86 C x1 x2 x3 x5 r5.toInt64 zFU ((7 : Int32), σ) b7 e8 (fun H locs ls hw hl => ?_) _ _ _ hw (lv_sub hl [2, 3, 4, 5, 6, 1, 0] rfl)
      have hl : lv_has ls 9 [(0, .ref (ad 0)), (1, .int x1), (2, .int x2), (3, .long x3), (5, .int x5), (6, .long r5.toInt64), (8, .int b7.1)] := hl
      refine lv_lload_n hx hb dX11_wrong_140 rfl (lv_at hl 3 rfl) ?_
      refine lv_ldc2 hx hb hown (hts _ zw_1118) dX11_wrong_141 ?_
      refine lv_lmul hx hb dX11_wrong_144 ?_
      refine lv_lstore_n (lv' := [(3, .long (x3 * (1000 : Int64))), (0, .ref (ad 0)), (1, .int x1), (2, .int x2), (5, .int x5), (6, .long r5.toInt64), (8, .int b7.1)]) hx hb dX11_wrong_145 rfl hl (by decide) rfl (fun ls hl => ?_)
      refine lv_iinc (v := x5 + 1) (lv' := [(5, .int (x5 + 1)), (3, .long (x3 * (1000 : Int64))), (0, .ref (ad 0)), (1, .int x1), (2, .int x2), (6, .long r5.toInt64), (8, .int b7.1)]) hx hb dX11_wrong_146 hl (k := 4) rfl rfl (by decide) rfl (fun ls hl => ?_)
      refine lv_goto (tgt := 54) hx hb dX11_wrong_149 (by decide) ?_
      obtain rfl := Option.some.inj h
      exact hn _ rfl _ _ _ hw (lv_sub hl [2, 3, 4, 1, 0] rfl)
set_option maxHeartbeats 4000000 in
set_option maxRecDepth 100000 in
theorem wX11_wrong_158 {p : Program} {l : Launch} {e : Env} {s : State} {m : MethodId} {args : Array Value} {below : List Frame} {meth : Method} {c : Code} {A : Nat → Prop} {H0 : Heap} {Q : State → Prop} {D : va_G} {g : zG} {ad : Nat → Nat} (C : zCx p c cX11_wrong s args RX11 m 9 A H0 D g) (σ : zSt) (x1 : Int32) (x2 : Int32) (x3 : Int64) (n : Nat) (a : (Int64 × Int32)) (b : (Int64 × Int32)) (h : zLp (fun a => bX11_wrong_158 σ x1 x2 x3 a.1 a.2) n a = some b) (hk : ∀ (H : Heap) (locs : List Loc) (ls : Array Slot), zH D g 1 ad A H0 σ H locs → lv_has ls 9 [(0, .ref (ad 0)), (1, .int x1), (2, .int x2), (3, .long x3), (5, .long b.1), (7, .int b.2)] → W p l e (zRm 6) s m args below meth c H locs 0 0 Q (F0 m 182 ls [])) : ∀ (H : Heap) (locs : List Loc) (ls : Array Slot), zH D g 1 ad A H0 σ H locs → lv_has ls 9 [(0, .ref (ad 0)), (1, .int x1), (2, .int x2), (3, .long x3), (5, .long a.1), (7, .int a.2)] → W p l e (zRm 6) s m args below meth c H locs 0 0 Q (F0 m 158 ls []) := by
  obtain ⟨hx, hb, hml, hown, hts, hK, hA⟩ := id C
  refine zLp_walk (P := fun (a : (Int64 × Int32)) => ∀ (H : Heap) (locs : List Loc) (ls : Array Slot), zH D g 1 ad A H0 σ H locs → lv_has ls 9 [(0, .ref (ad 0)), (1, .int x1), (2, .int x2), (3, .long x3), (5, .long a.1), (7, .int a.2)] → W p l e (zRm 6) s m args below meth c H locs 0 0 Q (F0 m 158 ls [])) (E := fun (b' : (Int64 × Int32)) => b' = b) ?_ n a b h rfl
  intro a r h hn he H locs ls hw hl
  obtain ⟨x5, x7⟩ := a
  have h : bX11_wrong_158 σ x1 x2 x3 x5 x7 = some r := h
  have hl : lv_has ls 9 [(0, .ref (ad 0)), (1, .int x1), (2, .int x2), (3, .long x3), (5, .long x5), (7, .int x7)] := hl
  have hw : zH D g 1 ad A H0 σ H locs := hw
  unfold bX11_wrong_158 at h
  refine lv_iload hx hb dX11_wrong_158 (lv_at hl 5 rfl) ?_
  refine lv_iload_n hx hb dX11_wrong_160 rfl (lv_at hl 1 rfl) ?_
  refine lv_icmp_ge (tgt := 182) hx hb dX11_wrong_161 (by decide) (fun t1 => ?_) (fun t1 => ?_)
  · rw [if_pos t1] at h
    obtain rfl := Option.some.inj h
    obtain rfl := he _ rfl
    exact hk _ _ _ hw (lv_sub hl [0, 1, 2, 3, 4, 5] rfl)
  · rw [if_neg t1] at h
    refine lv_lload hx hb dX11_wrong_164 (lv_at hl 4 rfl) ?_
    refine lv_aload_n hx hb dX11_wrong_166 rfl (lv_at hl 0 rfl) ?_
    refine z_getc hx hb hts zin_X11 hown hK hw zF1_0_25 (hts _ zw_863) dX11_wrong_167 ?_
    refine lv_iload hx hb dX11_wrong_170 (lv_at hl 5 rfl) ?_
    obtain ⟨v2, e3, h⟩ := zbind h
    refine z_lald hx hb hK hw e3 dX11_wrong_172 ?_
    refine lv_ladd hx hb dX11_wrong_173 ?_
    refine lv_lstore (lv' := [(5, .long (x5 + v2)), (0, .ref (ad 0)), (1, .int x1), (2, .int x2), (3, .long x3), (7, .int x7)]) hx hb dX11_wrong_174 hl (by decide) rfl (fun ls hl => ?_)
    refine lv_iinc (v := x7 + 1) (lv' := [(7, .int (x7 + 1)), (5, .long (x5 + v2)), (0, .ref (ad 0)), (1, .int x1), (2, .int x2), (3, .long x3)]) hx hb dX11_wrong_176 hl (k := 5) rfl rfl (by decide) rfl (fun ls hl => ?_)
    refine lv_goto (tgt := 158) hx hb dX11_wrong_179 (by decide) ?_
    obtain rfl := Option.some.inj h
    exact hn _ rfl _ _ _ hw (lv_sub hl [2, 3, 4, 5, 1, 0] rfl)
theorem hX11_wrong : yX11_wrong.cls = RX11 ∧ yX11_wrong.cls ≠ "java/lang/invoke/MethodHandle" ∧ yX11_wrong.cls ≠ "java/lang/invoke/VarHandle" ∧ (parseMethodDescriptor yX11_wrong.desc).map (fun d => d.parameters.length) = some 2 := by decide +kernel
set_option maxHeartbeats 4000000 in
set_option maxRecDepth 100000 in
theorem kX11_wrong (l : Launch) (D : va_G) (g : zG) (ad : Nat → Nat) (σ : zSt) (x1 : Int32) (x2 : Int32) (o : Int64 × zSt) (h : fX11_wrong σ x1 x2 = some o) : zMl l D g 1 ad yX11_wrong (Cond.code yX11_wrong cX11_wrong 9 (some .long) :: zws) (zRm 6) [.ref (ad 0), .int x1, .int x2] σ o.1 o.2 := by
  refine z_enter_l (by decide) (Nat.le_of_ble_eq_true rfl) ?_
  intro p e s m below meth c A ls Q C hw hl hret
  obtain ⟨hx, hb, hml, hown, hts, hK, hA⟩ := id C
  have hown : s.vm.findClass RX11 = some m.cls := hown
  have C : zCx p c cX11_wrong s _ RX11 m 9 A s.heap D g := C
  have hl : lv_has ls 9 [(0, .ref (ad 0)), (1, .int x1), (2, .int x2)] := hl
  unfold fX11_wrong at h
  refine lv_iload_n hx hb dX11_wrong_0 rfl (lv_at hl 1 rfl) ?_
  refine lv_iconst (v := 0) hx hb dX11_wrong_1 (by decide) ?_
  refine lv_bipush (v := 7) hx hb dX11_wrong_2 (by decide) ?_
  refine z_cSi (As := [.int x1, .int (0 : Int32), .int (7 : Int32)]) (rest := []) ⟨hx, hb, hml, hown, hts⟩ hK hw hA (kX11_within l D g ad σ x1 (0 : Int32) (7 : Int32) _ rfl) (zcwS 3 hts zgoodIn zw_930 zw_931 zw_64 zw_932 rfl rfl hX11_within ⟨Nat.le_of_ble_eq_true rfl, Nat.le_of_ble_eq_true rfl⟩) rfl hl.1 rfl (Nat.le_of_ble_eq_true rfl) dX11_wrong_4 ⟨Nat.zero_le _, Nat.zero_le _⟩ (fun H locs hw => ?_)
  refine lv_if_eq (tgt := 17) hx hb dX11_wrong_7 (by decide) (fun t1 => ?_) (fun t1 => ?_)
  · rw [if_pos t1] at h
    refine lv_ldc2 hx hb hown (hts _ zw_1029) dX11_wrong_17 ?_
    obtain rfl := Option.some.inj h
    exact hret _ _ _ _ hw dX11_wrong_20
  · rw [if_neg t1] at h
    refine lv_iload_n hx hb dX11_wrong_10 rfl (lv_at hl 2 rfl) ?_
    refine z_cSi (As := [.int x2]) (rest := []) ⟨hx, hb, hml, hown, hts⟩ hK hw hA (kX11_isWhich l D g ad σ x2 _ rfl) (zcwS 1 hts zgoodIn zw_1034 zw_1035 zw_64 zw_1036 rfl rfl hX11_isWhich ⟨Nat.le_of_ble_eq_true rfl, Nat.le_of_ble_eq_true rfl⟩) rfl hl.1 rfl (Nat.le_of_ble_eq_true rfl) dX11_wrong_11 ⟨Nat.zero_le _, Nat.zero_le _⟩ (fun H locs hw => ?_)
    refine lv_if_ne (tgt := 21) hx hb dX11_wrong_14 (by decide) (fun t2 => ?_) (fun t2 => ?_)
    · rw [if_neg t2] at h
      refine lv_aload_n hx hb dX11_wrong_21 rfl (lv_at hl 0 rfl) ?_
      refine z_getc hx hb hts zin_X11 hown hK hw zF1_0_25 (hts _ zw_863) dX11_wrong_22 ?_
      refine lv_iconst (v := 0) hx hb dX11_wrong_25 (by decide) ?_
      refine lv_lconst (v := 1) hx hb dX11_wrong_26 (by decide) ?_
      obtain ⟨s3, e4, h⟩ := zbind h
      refine z_last hx hb hK hw e4 dX11_wrong_27 (fun H locs hw => ?_)
      refine lv_iconst (v := 1) hx hb dX11_wrong_28 (by decide) ?_
      refine lv_istore_n (lv' := [(3, .int (1 : Int32)), (0, .ref (ad 0)), (1, .int x1), (2, .int x2)]) hx hb dX11_wrong_29 rfl hl (by decide) rfl (fun ls hl => ?_)
      obtain ⟨b5, e6, h⟩ := zbind h
      refine wX11_wrong_30 C x1 x2 zFU ((1 : Int32), s3) b5 e6 (fun H locs ls hw hl => ?_) _ _ _ hw (lv_sub hl [1, 2, 3, 0] rfl)
      have hl : lv_has ls 9 [(0, .ref (ad 0)), (1, .int x1), (2, .int x2), (3, .int b5.1)] := hl
      refine lv_lconst (v := 1) hx hb dX11_wrong_49 (by decide) ?_
      refine lv_lstore_n (lv' := [(3, .long (1 : Int64)), (0, .ref (ad 0)), (1, .int x1), (2, .int x2)]) hx hb dX11_wrong_50 rfl hl (by decide) rfl (fun ls hl => ?_)
      refine lv_iconst (v := 0) hx hb dX11_wrong_51 (by decide) ?_
      refine lv_istore (lv' := [(5, .int (0 : Int32)), (3, .long (1 : Int64)), (0, .ref (ad 0)), (1, .int x1), (2, .int x2)]) hx hb dX11_wrong_52 hl (by decide) rfl (fun ls hl => ?_)
      obtain ⟨b7, e8, h⟩ := zbind h
      refine wX11_wrong_54 C x1 x2 zFU ((1 : Int64), (0 : Int32), b5.2) b7 e8 (fun H locs ls hw hl => ?_) _ _ _ hw (lv_sub hl [2, 3, 4, 1, 0] rfl)
      have hl : lv_has ls 9 [(0, .ref (ad 0)), (1, .int x1), (2, .int x2), (3, .long b7.1), (5, .int b7.2.1)] := hl
      refine lv_lconst (v := 0) hx hb dX11_wrong_152 (by decide) ?_
      refine lv_lstore (lv' := [(5, .long (0 : Int64)), (0, .ref (ad 0)), (1, .int x1), (2, .int x2), (3, .long b7.1)]) hx hb dX11_wrong_153 hl (by decide) rfl (fun ls hl => ?_)
      refine lv_iconst (v := 0) hx hb dX11_wrong_155 (by decide) ?_
      refine lv_istore (lv' := [(7, .int (0 : Int32)), (5, .long (0 : Int64)), (0, .ref (ad 0)), (1, .int x1), (2, .int x2), (3, .long b7.1)]) hx hb dX11_wrong_156 hl (by decide) rfl (fun ls hl => ?_)
      obtain ⟨b9, e10, h⟩ := zbind h
      refine wX11_wrong_158 C b7.2.2 x1 x2 b7.1 zFU ((0 : Int64), (0 : Int32)) b9 e10 (fun H locs ls hw hl => ?_) _ _ _ hw (lv_sub hl [2, 3, 4, 5, 1, 0] rfl)
      have hl : lv_has ls 9 [(0, .ref (ad 0)), (1, .int x1), (2, .int x2), (3, .long b7.1), (5, .long b9.1), (7, .int b9.2)] := hl
      refine lv_lload hx hb dX11_wrong_182 (lv_at hl 4 rfl) ?_
      refine lv_lload_n hx hb dX11_wrong_184 rfl (lv_at hl 3 rfl) ?_
      refine lv_iload_n hx hb dX11_wrong_185 rfl (lv_at hl 2 rfl) ?_
      obtain ⟨r11, e12, h⟩ := zbind h
      refine z_cSl (As := [.long b9.1, .long b7.1, .int x2]) (rest := []) ⟨hx, hb, hml, hown, hts⟩ hK hw hA (kX11_share l D g ad b7.2.2 b9.1 b7.1 x2 r11 e12) (zcwS 3 hts zgoodIn zw_1042 zw_1043 zw_64 zw_1044 rfl rfl hX11_share ⟨Nat.le_of_ble_eq_true rfl, Nat.le_of_ble_eq_true rfl⟩) rfl hl.1 rfl (Nat.le_of_ble_eq_true rfl) dX11_wrong_186 ⟨Nat.zero_le _, Nat.zero_le _⟩ (fun H locs hw => ?_)
      obtain rfl := Option.some.inj h
      exact hret _ _ _ _ hw dX11_wrong_189
    · rw [if_pos t2] at h
      refine lv_ldc2 hx hb hown (hts _ zw_1029) dX11_wrong_17 ?_
      obtain rfl := Option.some.inj h
      exact hret _ _ _ _ hw dX11_wrong_20
set_option maxHeartbeats 4000000 in
set_option maxRecDepth 100000 in
theorem wX11_again_43 {p : Program} {l : Launch} {e : Env} {s : State} {m : MethodId} {args : Array Value} {below : List Frame} {meth : Method} {c : Code} {A : Nat → Prop} {H0 : Heap} {Q : State → Prop} {D : va_G} {g : zG} {ad : Nat → Nat} (C : zCx p c cX11_again s args RX11 m 9 A H0 D g) (σ : zSt) (x1 : Int32) (x2 : Int32) (x3 : Int32) (x4 : Int32) (x5 : Int32) (n : Nat) (a : (Int32 × Int32 × Int32)) (b : (Int32 × Int32 × Int32)) (h : zLp (fun a => bX11_again_43 σ x1 x2 x3 x4 x5 a.1 a.2.1 a.2.2) n a = some b) (hk : ∀ (H : Heap) (locs : List Loc) (ls : Array Slot), zH D g 1 ad A H0 σ H locs → lv_has ls 9 [(0, .ref (ad 0)), (1, .int x1), (2, .int x2), (3, .int x3), (4, .int x4), (5, .int x5), (6, .int b.1), (7, .int b.2.1), (8, .int b.2.2)] → W p l e (zRm 6) s m args below meth c H locs 0 0 Q (F0 m 103 ls [])) : ∀ (H : Heap) (locs : List Loc) (ls : Array Slot), zH D g 1 ad A H0 σ H locs → lv_has ls 9 [(0, .ref (ad 0)), (1, .int x1), (2, .int x2), (3, .int x3), (4, .int x4), (5, .int x5), (6, .int a.1), (7, .int a.2.1), (8, .int a.2.2)] → W p l e (zRm 6) s m args below meth c H locs 0 0 Q (F0 m 43 ls []) := by
  obtain ⟨hx, hb, hml, hown, hts, hK, hA⟩ := id C
  refine zLp_walk (P := fun (a : (Int32 × Int32 × Int32)) => ∀ (H : Heap) (locs : List Loc) (ls : Array Slot), zH D g 1 ad A H0 σ H locs → lv_has ls 9 [(0, .ref (ad 0)), (1, .int x1), (2, .int x2), (3, .int x3), (4, .int x4), (5, .int x5), (6, .int a.1), (7, .int a.2.1), (8, .int a.2.2)] → W p l e (zRm 6) s m args below meth c H locs 0 0 Q (F0 m 43 ls [])) (E := fun (b' : (Int32 × Int32 × Int32)) => b' = b) ?_ n a b h rfl
  intro a r h hn he H locs ls hw hl
  obtain ⟨x6, x7, x8⟩ := a
  have h : bX11_again_43 σ x1 x2 x3 x4 x5 x6 x7 x8 = some r := h
  have hl : lv_has ls 9 [(0, .ref (ad 0)), (1, .int x1), (2, .int x2), (3, .int x3), (4, .int x4), (5, .int x5), (6, .int x6), (7, .int x7), (8, .int x8)] := hl
  have hw : zH D g 1 ad A H0 σ H locs := hw
  unfold bX11_again_43 at h
  refine lv_iload hx hb dX11_again_43 (lv_at hl 8 rfl) ?_
  refine lv_aload_n hx hb dX11_again_45 rfl (lv_at hl 0 rfl) ?_
  refine z_geti hx hb hts zin_X11 hown hK hw zF1_0_19 (hts _ zw_857) dX11_again_46 ?_
  refine lv_icmp_ge (tgt := 103) hx hb dX11_again_49 (by decide) (fun t1 => ?_) (fun t1 => ?_)
  · rw [if_pos t1] at h
    obtain rfl := Option.some.inj h
    obtain rfl := he _ rfl
    exact hk _ _ _ hw (lv_sub hl [0, 1, 2, 3, 4, 5, 6, 7, 8] rfl)
  · rw [if_neg t1] at h
    refine lv_iload hx hb dX11_again_52 (lv_at hl 5 rfl) ?_
    refine lv_iload hx hb dX11_again_54 (lv_at hl 8 rfl) ?_
    refine z_cSi (As := [.int x5, .int x8]) (rest := []) ⟨hx, hb, hml, hown, hts⟩ hK hw hA (kX11_has l D g ad σ x5 x8 _ rfl) (zcwS 2 hts zgoodIn zw_1074 zw_1075 zw_64 zw_1076 rfl rfl hX11_has ⟨Nat.le_of_ble_eq_true rfl, Nat.le_of_ble_eq_true rfl⟩) rfl hl.1 rfl (Nat.le_of_ble_eq_true rfl) dX11_again_56 ⟨Nat.zero_le _, Nat.zero_le _⟩ (fun H locs hw => ?_)
    refine lv_if_eq (tgt := 97) hx hb dX11_again_59 (by decide) (fun t2 => ?_) (fun t2 => ?_)
    · rw [if_pos t2] at h
      refine lv_iinc (v := x8 + 1) (lv' := [(8, .int (x8 + 1)), (0, .ref (ad 0)), (1, .int x1), (2, .int x2), (3, .int x3), (4, .int x4), (5, .int x5), (6, .int x6), (7, .int x7)]) hx hb dX11_again_97 hl (k := 8) rfl rfl (by decide) rfl (fun ls hl => ?_)
      refine lv_goto (tgt := 43) hx hb dX11_again_100 (by decide) ?_
      obtain rfl := Option.some.inj h
      exact hn _ rfl _ _ _ hw (lv_sub hl [1, 2, 3, 4, 5, 6, 7, 8, 0] rfl)
    · rw [if_neg t2] at h
      refine lv_iload hx hb dX11_again_62 (lv_at hl 6 rfl) ?_
      refine lv_aload_n hx hb dX11_again_64 rfl (lv_at hl 0 rfl) ?_
      refine z_getc hx hb hts zin_X11 hown hK hw zF1_0_23 (hts _ zw_861) dX11_again_65 ?_
      refine lv_iload hx hb dX11_again_68 (lv_at hl 8 rfl) ?_
      obtain ⟨v3, e4, h⟩ := zbind h
      refine z_iald hx hb hK hw e4 dX11_again_70 ?_
      refine lv_sipush (v := 1000) hx hb dX11_again_71 (by decide) ?_
      refine lv_aload_n hx hb dX11_again_74 rfl (lv_at hl 0 rfl) ?_
      refine lv_iload hx hb dX11_again_75 (lv_at hl 8 rfl) ?_
      obtain ⟨r5, e6, h⟩ := zbind h
      refine z_cVi (As := [.int x8]) (rest := [.int (1000 : Int32), .int v3, .int x6]) ⟨hx, hb, hml, hown, hts⟩ hK hw hA (kX11_truthOf l D g ad σ x8 r5 e6) (zcwV 1 hts zgoodIn zw_1114 zw_1116 zw_45 zw_64 zw_1117 rfl rfl hX11_truthOf ⟨Nat.le_of_ble_eq_true rfl, Nat.le_of_ble_eq_true rfl⟩) zO1_0 rfl hl.1 rfl (Nat.le_of_ble_eq_true rfl) dX11_again_77 ⟨Nat.zero_le _, Nat.zero_le _⟩ (fun H locs hw => ?_)
      refine lv_isub hx hb dX11_again_80 ?_
      refine lv_imul hx hb dX11_again_81 ?_
      refine lv_iadd hx hb dX11_again_82 ?_
      refine lv_istore (lv' := [(6, .int (x6 + (v3 * ((1000 : Int32) - r5)))), (0, .ref (ad 0)), (1, .int x1), (2, .int x2), (3, .int x3), (4, .int x4), (5, .int x5), (7, .int x7), (8, .int x8)]) hx hb dX11_again_83 hl (by decide) rfl (fun ls hl => ?_)
      refine lv_iload hx hb dX11_again_85 (lv_at hl 7 rfl) ?_
      refine lv_aload_n hx hb dX11_again_87 rfl (lv_at hl 1 rfl) ?_
      refine z_getc hx hb hts zin_X11 hown hK hw zF1_0_24 (hts _ zw_862) dX11_again_88 ?_
      refine lv_iload hx hb dX11_again_91 (lv_at hl 8 rfl) ?_
      obtain ⟨v7, e8, h⟩ := zbind h
      refine z_iald hx hb hK hw e8 dX11_again_93 ?_
      refine lv_iadd hx hb dX11_again_94 ?_
      refine lv_istore (lv' := [(7, .int (x7 + v7)), (6, .int (x6 + (v3 * ((1000 : Int32) - r5)))), (0, .ref (ad 0)), (1, .int x1), (2, .int x2), (3, .int x3), (4, .int x4), (5, .int x5), (8, .int x8)]) hx hb dX11_again_95 hl (by decide) rfl (fun ls hl => ?_)
      refine lv_iinc (v := x8 + 1) (lv' := [(8, .int (x8 + 1)), (7, .int (x7 + v7)), (6, .int (x6 + (v3 * ((1000 : Int32) - r5)))), (0, .ref (ad 0)), (1, .int x1), (2, .int x2), (3, .int x3), (4, .int x4), (5, .int x5)]) hx hb dX11_again_97 hl (k := 8) rfl rfl (by decide) rfl (fun ls hl => ?_)
      refine lv_goto (tgt := 43) hx hb dX11_again_100 (by decide) ?_
      obtain rfl := Option.some.inj h
      exact hn _ rfl _ _ _ hw (lv_sub hl [3, 4, 5, 6, 7, 8, 2, 1, 0] rfl)
set_option maxHeartbeats 4000000 in
set_option maxRecDepth 100000 in
theorem wX11_again_23 {p : Program} {l : Launch} {e : Env} {s : State} {m : MethodId} {args : Array Value} {below : List Frame} {meth : Method} {c : Code} {A : Nat → Prop} {H0 : Heap} {Q : State → Prop} {D : va_G} {g : zG} {ad : Nat → Nat} (C : zCx p c cX11_again s args RX11 m 9 A H0 D g) (σ : zSt) (x1 : Int32) (n : Nat) (a : (Int32 × Int32 × Int32 × Int32)) (b : (Int32 × Int32 × Int32 × Int32)) (h : zLp (fun a => bX11_again_23 σ x1 a.1 a.2.1 a.2.2.1 a.2.2.2) n a = some b) (hk : ∀ (H : Heap) (locs : List Loc) (ls : Array Slot), zH D g 1 ad A H0 σ H locs → lv_has ls 9 [(0, .ref (ad 0)), (1, .int x1), (2, .int b.1), (3, .int b.2.1), (4, .int b.2.2.1), (5, .int b.2.2.2)] → W p l e (zRm 6) s m args below meth c H locs 0 0 Q (F0 m 144 ls [])) : ∀ (H : Heap) (locs : List Loc) (ls : Array Slot), zH D g 1 ad A H0 σ H locs → lv_has ls 9 [(0, .ref (ad 0)), (1, .int x1), (2, .int a.1), (3, .int a.2.1), (4, .int a.2.2.1), (5, .int a.2.2.2)] → W p l e (zRm 6) s m args below meth c H locs 0 0 Q (F0 m 23 ls []) := by
  obtain ⟨hx, hb, hml, hown, hts, hK, hA⟩ := id C
  refine zLp_walk (P := fun (a : (Int32 × Int32 × Int32 × Int32)) => ∀ (H : Heap) (locs : List Loc) (ls : Array Slot), zH D g 1 ad A H0 σ H locs → lv_has ls 9 [(0, .ref (ad 0)), (1, .int x1), (2, .int a.1), (3, .int a.2.1), (4, .int a.2.2.1), (5, .int a.2.2.2)] → W p l e (zRm 6) s m args below meth c H locs 0 0 Q (F0 m 23 ls [])) (E := fun (b' : (Int32 × Int32 × Int32 × Int32)) => b' = b) ?_ n a b h rfl
  intro a r h hn he H locs ls hw hl
  obtain ⟨x2, x3, x4, x5⟩ := a
  have h : bX11_again_23 σ x1 x2 x3 x4 x5 = some r := h
  have hl : lv_has ls 9 [(0, .ref (ad 0)), (1, .int x1), (2, .int x2), (3, .int x3), (4, .int x4), (5, .int x5)] := hl
  have hw : zH D g 1 ad A H0 σ H locs := hw
  unfold bX11_again_23 at h
  refine lv_iload hx hb dX11_again_23 (lv_at hl 5 rfl) ?_
  refine lv_iconst (v := 1) hx hb dX11_again_25 (by decide) ?_
  refine lv_aload_n hx hb dX11_again_26 rfl (lv_at hl 0 rfl) ?_
  refine z_geti hx hb hts zin_X11 hown hK hw zF1_0_19 (hts _ zw_857) dX11_again_27 ?_
  refine lv_ishl hx hb dX11_again_30 ?_
  refine lv_icmp_ge (tgt := 144) hx hb dX11_again_31 (by decide) (fun t1 => ?_) (fun t1 => ?_)
  · rw [if_pos t1] at h
    obtain rfl := Option.some.inj h
    obtain rfl := he _ rfl
    exact hk _ _ _ hw (lv_sub hl [0, 1, 2, 3, 4, 5] rfl)
  · rw [if_neg t1] at h
    refine lv_iconst (v := 0) hx hb dX11_again_34 (by decide) ?_
    refine lv_istore (lv' := [(6, .int (0 : Int32)), (0, .ref (ad 0)), (1, .int x1), (2, .int x2), (3, .int x3), (4, .int x4), (5, .int x5)]) hx hb dX11_again_35 hl (by decide) rfl (fun ls hl => ?_)
    refine lv_iconst (v := 0) hx hb dX11_again_37 (by decide) ?_
    refine lv_istore (lv' := [(7, .int (0 : Int32)), (6, .int (0 : Int32)), (0, .ref (ad 0)), (1, .int x1), (2, .int x2), (3, .int x3), (4, .int x4), (5, .int x5)]) hx hb dX11_again_38 hl (by decide) rfl (fun ls hl => ?_)
    refine lv_iconst (v := 0) hx hb dX11_again_40 (by decide) ?_
    refine lv_istore (lv' := [(8, .int (0 : Int32)), (7, .int (0 : Int32)), (6, .int (0 : Int32)), (0, .ref (ad 0)), (1, .int x1), (2, .int x2), (3, .int x3), (4, .int x4), (5, .int x5)]) hx hb dX11_again_41 hl (by decide) rfl (fun ls hl => ?_)
    obtain ⟨b2, e3, h⟩ := zbind h
    refine wX11_again_43 C σ x1 x2 x3 x4 x5 zFU ((0 : Int32), (0 : Int32), (0 : Int32)) b2 e3 (fun H locs ls hw hl => ?_) _ _ _ hw (lv_sub hl [3, 4, 5, 6, 7, 8, 2, 1, 0] rfl)
    have hl : lv_has ls 9 [(0, .ref (ad 0)), (1, .int x1), (2, .int x2), (3, .int x3), (4, .int x4), (5, .int x5), (6, .int b2.1), (7, .int b2.2.1), (8, .int b2.2.2)] := hl
    refine lv_iload hx hb dX11_again_103 (lv_at hl 7 rfl) ?_
    refine lv_iload_n hx hb dX11_again_105 rfl (lv_at hl 1 rfl) ?_
    refine lv_icmp_gt (tgt := 138) hx hb dX11_again_106 (by decide) (fun t4 => ?_) (fun t4 => ?_)
    · rw [if_pos t4] at h
      refine lv_iinc (v := x5 + 1) (lv' := [(5, .int (x5 + 1)), (0, .ref (ad 0)), (1, .int x1), (2, .int x2), (3, .int x3), (4, .int x4), (6, .int b2.1), (7, .int b2.2.1), (8, .int b2.2.2)]) hx hb dX11_again_138 hl (k := 5) rfl rfl (by decide) rfl (fun ls hl => ?_)
      refine lv_goto (tgt := 23) hx hb dX11_again_141 (by decide) ?_
      obtain rfl := Option.some.inj h
      exact hn _ rfl _ _ _ hw (lv_sub hl [1, 2, 3, 4, 5, 0] rfl)
    · rw [if_neg t4] at h
      refine lv_iload hx hb dX11_again_109 (lv_at hl 6 rfl) ?_
      refine lv_iload_n hx hb dX11_again_111 rfl (lv_at hl 3 rfl) ?_
      refine lv_icmp_gt (tgt := 128) hx hb dX11_again_112 (by decide) (fun t5 => ?_) (fun t5 => ?_)
      · rw [if_pos t5] at h
        refine lv_iload hx hb dX11_again_128 (lv_at hl 5 rfl) ?_
        refine lv_istore_n (lv' := [(2, .int x5), (0, .ref (ad 0)), (1, .int x1), (3, .int x3), (4, .int x4), (5, .int x5), (6, .int b2.1), (7, .int b2.2.1), (8, .int b2.2.2)]) hx hb dX11_again_130 rfl hl (by decide) rfl (fun ls hl => ?_)
        refine lv_iload hx hb dX11_again_131 (lv_at hl 6 rfl) ?_
        refine lv_istore_n (lv' := [(3, .int b2.1), (2, .int x5), (0, .ref (ad 0)), (1, .int x1), (4, .int x4), (5, .int x5), (6, .int b2.1), (7, .int b2.2.1), (8, .int b2.2.2)]) hx hb dX11_again_133 rfl hl (by decide) rfl (fun ls hl => ?_)
        refine lv_iload hx hb dX11_again_134 (lv_at hl 7 rfl) ?_
        refine lv_istore (lv' := [(4, .int b2.2.1), (3, .int b2.1), (2, .int x5), (0, .ref (ad 0)), (1, .int x1), (5, .int x5), (6, .int b2.1), (7, .int b2.2.1), (8, .int b2.2.2)]) hx hb dX11_again_136 hl (by decide) rfl (fun ls hl => ?_)
        refine lv_iinc (v := x5 + 1) (lv' := [(5, .int (x5 + 1)), (4, .int b2.2.1), (3, .int b2.1), (2, .int x5), (0, .ref (ad 0)), (1, .int x1), (6, .int b2.1), (7, .int b2.2.1), (8, .int b2.2.2)]) hx hb dX11_again_138 hl (k := 5) rfl rfl (by decide) rfl (fun ls hl => ?_)
        refine lv_goto (tgt := 23) hx hb dX11_again_141 (by decide) ?_
        obtain rfl := Option.some.inj h
        exact hn _ rfl _ _ _ hw (lv_sub hl [4, 5, 3, 2, 1, 0] rfl)
      · rw [if_neg t5] at h
        refine lv_iload hx hb dX11_again_115 (lv_at hl 6 rfl) ?_
        refine lv_iload_n hx hb dX11_again_117 rfl (lv_at hl 3 rfl) ?_
        refine lv_icmp_ne (tgt := 138) hx hb dX11_again_118 (by decide) (fun t6 => ?_) (fun t6 => ?_)
        · rw [if_neg t6] at h
          refine lv_iinc (v := x5 + 1) (lv' := [(5, .int (x5 + 1)), (0, .ref (ad 0)), (1, .int x1), (2, .int x2), (3, .int x3), (4, .int x4), (6, .int b2.1), (7, .int b2.2.1), (8, .int b2.2.2)]) hx hb dX11_again_138 hl (k := 5) rfl rfl (by decide) rfl (fun ls hl => ?_)
          refine lv_goto (tgt := 23) hx hb dX11_again_141 (by decide) ?_
          obtain rfl := Option.some.inj h
          exact hn _ rfl _ _ _ hw (lv_sub hl [1, 2, 3, 4, 5, 0] rfl)
        · rw [if_pos t6] at h
          refine lv_iload hx hb dX11_again_121 (lv_at hl 7 rfl) ?_
          refine lv_iload hx hb dX11_again_123 (lv_at hl 4 rfl) ?_
          refine lv_icmp_ge (tgt := 138) hx hb dX11_again_125 (by decide) (fun t7 => ?_) (fun t7 => ?_)
          · rw [if_pos t7] at h
            refine lv_iinc (v := x5 + 1) (lv' := [(5, .int (x5 + 1)), (0, .ref (ad 0)), (1, .int x1), (2, .int x2), (3, .int x3), (4, .int x4), (6, .int b2.1), (7, .int b2.2.1), (8, .int b2.2.2)]) hx hb dX11_again_138 hl (k := 5) rfl rfl (by decide) rfl (fun ls hl => ?_)
            refine lv_goto (tgt := 23) hx hb dX11_again_141 (by decide) ?_
            obtain rfl := Option.some.inj h
            exact hn _ rfl _ _ _ hw (lv_sub hl [1, 2, 3, 4, 5, 0] rfl)
          · rw [if_neg t7] at h
            refine lv_iload hx hb dX11_again_128 (lv_at hl 5 rfl) ?_
            refine lv_istore_n (lv' := [(2, .int x5), (0, .ref (ad 0)), (1, .int x1), (3, .int x3), (4, .int x4), (5, .int x5), (6, .int b2.1), (7, .int b2.2.1), (8, .int b2.2.2)]) hx hb dX11_again_130 rfl hl (by decide) rfl (fun ls hl => ?_)
            refine lv_iload hx hb dX11_again_131 (lv_at hl 6 rfl) ?_
            refine lv_istore_n (lv' := [(3, .int b2.1), (2, .int x5), (0, .ref (ad 0)), (1, .int x1), (4, .int x4), (5, .int x5), (6, .int b2.1), (7, .int b2.2.1), (8, .int b2.2.2)]) hx hb dX11_again_133 rfl hl (by decide) rfl (fun ls hl => ?_)
            refine lv_iload hx hb dX11_again_134 (lv_at hl 7 rfl) ?_
            refine lv_istore (lv' := [(4, .int b2.2.1), (3, .int b2.1), (2, .int x5), (0, .ref (ad 0)), (1, .int x1), (5, .int x5), (6, .int b2.1), (7, .int b2.2.1), (8, .int b2.2.2)]) hx hb dX11_again_136 hl (by decide) rfl (fun ls hl => ?_)
            refine lv_iinc (v := x5 + 1) (lv' := [(5, .int (x5 + 1)), (4, .int b2.2.1), (3, .int b2.1), (2, .int x5), (0, .ref (ad 0)), (1, .int x1), (6, .int b2.1), (7, .int b2.2.1), (8, .int b2.2.2)]) hx hb dX11_again_138 hl (k := 5) rfl rfl (by decide) rfl (fun ls hl => ?_)
            refine lv_goto (tgt := 23) hx hb dX11_again_141 (by decide) ?_
            obtain rfl := Option.some.inj h
            exact hn _ rfl _ _ _ hw (lv_sub hl [4, 5, 3, 2, 1, 0] rfl)
theorem hX11_again : yX11_again.cls = RX11 ∧ yX11_again.cls ≠ "java/lang/invoke/MethodHandle" ∧ yX11_again.cls ≠ "java/lang/invoke/VarHandle" ∧ (parseMethodDescriptor yX11_again.desc).map (fun d => d.parameters.length) = some 1 := by decide +kernel
set_option maxHeartbeats 4000000 in
set_option maxRecDepth 100000 in
theorem kX11_again (l : Launch) (D : va_G) (g : zG) (ad : Nat → Nat) (σ : zSt) (x1 : Int32) (o : Int32) (h : fX11_again σ x1 = some o) : zMi l D g 1 ad yX11_again (Cond.code yX11_again cX11_again 9 (some .int) :: zws) (zRm 6) [.ref (ad 0), .int x1] σ o σ := by
  refine z_enter_i (by decide) (Nat.le_of_ble_eq_true rfl) ?_
  intro p e s m below meth c A ls Q C hw hl hret
  obtain ⟨hx, hb, hml, hown, hts, hK, hA⟩ := id C
  have hown : s.vm.findClass RX11 = some m.cls := hown
  have C : zCx p c cX11_again s _ RX11 m 9 A s.heap D g := C
  have hl : lv_has ls 9 [(0, .ref (ad 0)), (1, .int x1)] := hl
  unfold fX11_again at h
  refine lv_iload_n hx hb dX11_again_0 rfl (lv_at hl 1 rfl) ?_
  refine lv_iconst (v := 0) hx hb dX11_again_1 (by decide) ?_
  refine lv_bipush (v := 60) hx hb dX11_again_2 (by decide) ?_
  refine z_cSi (As := [.int x1, .int (0 : Int32), .int (60 : Int32)]) (rest := []) ⟨hx, hb, hml, hown, hts⟩ hK hw hA (kX11_within l D g ad σ x1 (0 : Int32) (60 : Int32) _ rfl) (zcwS 3 hts zgoodIn zw_930 zw_931 zw_64 zw_932 rfl rfl hX11_within ⟨Nat.le_of_ble_eq_true rfl, Nat.le_of_ble_eq_true rfl⟩) rfl hl.1 rfl (Nat.le_of_ble_eq_true rfl) dX11_again_4 ⟨Nat.zero_le _, Nat.zero_le _⟩ (fun H locs hw => ?_)
  refine lv_if_ne (tgt := 13) hx hb dX11_again_7 (by decide) (fun t1 => ?_) (fun t1 => ?_)
  · rw [if_neg t1] at h
    refine lv_iconst (v := 0) hx hb dX11_again_13 (by decide) ?_
    refine lv_istore_n (lv' := [(2, .int (0 : Int32)), (0, .ref (ad 0)), (1, .int x1)]) hx hb dX11_again_14 rfl hl (by decide) rfl (fun ls hl => ?_)
    refine lv_iconst (v := 0) hx hb dX11_again_15 (by decide) ?_
    refine lv_istore_n (lv' := [(3, .int (0 : Int32)), (2, .int (0 : Int32)), (0, .ref (ad 0)), (1, .int x1)]) hx hb dX11_again_16 rfl hl (by decide) rfl (fun ls hl => ?_)
    refine lv_iconst (v := 0) hx hb dX11_again_17 (by decide) ?_
    refine lv_istore (lv' := [(4, .int (0 : Int32)), (3, .int (0 : Int32)), (2, .int (0 : Int32)), (0, .ref (ad 0)), (1, .int x1)]) hx hb dX11_again_18 hl (by decide) rfl (fun ls hl => ?_)
    refine lv_iconst (v := 1) hx hb dX11_again_20 (by decide) ?_
    refine lv_istore (lv' := [(5, .int (1 : Int32)), (4, .int (0 : Int32)), (3, .int (0 : Int32)), (2, .int (0 : Int32)), (0, .ref (ad 0)), (1, .int x1)]) hx hb dX11_again_21 hl (by decide) rfl (fun ls hl => ?_)
    obtain ⟨b2, e3, h⟩ := zbind h
    refine wX11_again_23 C σ x1 zFU ((0 : Int32), (0 : Int32), (0 : Int32), (1 : Int32)) b2 e3 (fun H locs ls hw hl => ?_) _ _ _ hw (lv_sub hl [4, 5, 3, 2, 1, 0] rfl)
    have hl : lv_has ls 9 [(0, .ref (ad 0)), (1, .int x1), (2, .int b2.1), (3, .int b2.2.1), (4, .int b2.2.2.1), (5, .int b2.2.2.2)] := hl
    refine lv_iload_n hx hb dX11_again_144 rfl (lv_at hl 2 rfl) ?_
    obtain rfl := Option.some.inj h
    exact hret _ _ _ _ hw rfl dX11_again_145
  · rw [if_pos t1] at h
    refine lv_bipush (v := (-2)) hx hb dX11_again_10 (by decide) ?_
    obtain rfl := Option.some.inj h
    exact hret _ _ _ _ hw rfl dX11_again_12
theorem hX11_spot : yX11_spot.cls ≠ "java/lang/invoke/MethodHandle" ∧ yX11_spot.cls ≠ "java/lang/invoke/VarHandle" ∧ (parseMethodDescriptor yX11_spot.desc).map (fun d => d.parameters.length) = some 4 := by decide +kernel
set_option maxHeartbeats 4000000 in
set_option maxRecDepth 100000 in
theorem kX11_spot (l : Launch) (D : va_G) (g : zG) (ad : Nat → Nat) (σ : zSt) (x0 : Int32) (x1 : Int32) (x2 : Int32) (x3 : Int32) (o : Int32) (h : fX11_spot x0 x1 x2 x3 = o) : zMi l D g 1 ad yX11_spot (Cond.code yX11_spot cX11_spot 4 (some .int) :: zws) (zRm 0) [.int x0, .int x1, .int x2, .int x3] σ o σ := by
  refine z_enter_i (by decide) (Nat.le_of_ble_eq_true rfl) ?_
  intro p e s m below meth c A ls Q C hw hl hret
  obtain ⟨hx, hb, hml, hown, hts, hK, hA⟩ := id C
  have hown : s.vm.findClass RX11 = some m.cls := hown
  have C : zCx p c cX11_spot s _ RX11 m 4 A s.heap D g := C
  have hl : lv_has ls 4 [(0, .int x0), (1, .int x1), (2, .int x2), (3, .int x3)] := hl
  unfold fX11_spot at h
  refine lv_iload_n hx hb dX11_spot_0 rfl (lv_at hl 0 rfl) ?_
  refine lv_bipush (v := 10) hx hb dX11_spot_1 (by decide) ?_
  refine lv_imul hx hb dX11_spot_3 ?_
  refine lv_iload_n hx hb dX11_spot_4 rfl (lv_at hl 1 rfl) ?_
  refine lv_iadd hx hb dX11_spot_5 ?_
  refine lv_bipush (v := 10) hx hb dX11_spot_6 (by decide) ?_
  refine lv_imul hx hb dX11_spot_8 ?_
  refine lv_iload_n hx hb dX11_spot_9 rfl (lv_at hl 2 rfl) ?_
  refine lv_iadd hx hb dX11_spot_10 ?_
  refine lv_iconst (v := 3) hx hb dX11_spot_11 (by decide) ?_
  refine lv_imul hx hb dX11_spot_12 ?_
  refine lv_iload_n hx hb dX11_spot_13 rfl (lv_at hl 3 rfl) ?_
  refine lv_iadd hx hb dX11_spot_14 ?_
  subst h
  exact hret _ _ _ _ hw rfl dX11_spot_15
theorem hX11_more : yX11_more.cls ≠ "java/lang/invoke/MethodHandle" ∧ yX11_more.cls ≠ "java/lang/invoke/VarHandle" ∧ (parseMethodDescriptor yX11_more.desc).map (fun d => d.parameters.length) = some 1 := by decide +kernel
set_option maxHeartbeats 4000000 in
set_option maxRecDepth 100000 in
theorem kX11_more (l : Launch) (D : va_G) (g : zG) (ad : Nat → Nat) (σ : zSt) (x0 : Int32) (o : Int32) (h : fX11_more x0 = o) : zMi l D g 1 ad yX11_more (Cond.code yX11_more cX11_more 1 (some .int) :: zws) (zRm 0) [.int x0] σ o σ := by
  refine z_enter_i (by decide) (Nat.le_of_ble_eq_true rfl) ?_
  intro p e s m below meth c A ls Q C hw hl hret
  obtain ⟨hx, hb, hml, hown, hts, hK, hA⟩ := id C
  have hown : s.vm.findClass RX11 = some m.cls := hown
  have C : zCx p c cX11_more s _ RX11 m 1 A s.heap D g := C
  have hl : lv_has ls 1 [(0, .int x0)] := hl
  unfold fX11_more at h
  refine lv_iload_n hx hb dX11_more_0 rfl (lv_at hl 0 rfl) ?_
  refine lv_bipush (v := 9) hx hb dX11_more_1 (by decide) ?_
  refine lv_icmp_ge (tgt := 12) hx hb dX11_more_3 (by decide) (fun t1 => ?_) (fun t1 => ?_)
  · rw [if_pos t1] at h
    refine lv_bipush (v := 9) hx hb dX11_more_12 (by decide) ?_
    subst h
    exact hret _ _ _ _ hw rfl dX11_more_14
  · rw [if_neg t1] at h
    refine lv_iload_n hx hb dX11_more_6 rfl (lv_at hl 0 rfl) ?_
    refine lv_iconst (v := 1) hx hb dX11_more_7 (by decide) ?_
    refine lv_iadd hx hb dX11_more_8 ?_
    refine lv_goto (tgt := 14) hx hb dX11_more_9 (by decide) ?_
    subst h
    exact hret _ _ _ _ hw rfl dX11_more_14
theorem hX11_less : yX11_less.cls ≠ "java/lang/invoke/MethodHandle" ∧ yX11_less.cls ≠ "java/lang/invoke/VarHandle" ∧ (parseMethodDescriptor yX11_less.desc).map (fun d => d.parameters.length) = some 1 := by decide +kernel
set_option maxHeartbeats 4000000 in
set_option maxRecDepth 100000 in
theorem kX11_less (l : Launch) (D : va_G) (g : zG) (ad : Nat → Nat) (σ : zSt) (x0 : Int32) (o : Int32) (h : fX11_less x0 = o) : zMi l D g 1 ad yX11_less (Cond.code yX11_less cX11_less 1 (some .int) :: zws) (zRm 0) [.int x0] σ o σ := by
  refine z_enter_i (by decide) (Nat.le_of_ble_eq_true rfl) ?_
  intro p e s m below meth c A ls Q C hw hl hret
  obtain ⟨hx, hb, hml, hown, hts, hK, hA⟩ := id C
  have hown : s.vm.findClass RX11 = some m.cls := hown
  have C : zCx p c cX11_less s _ RX11 m 1 A s.heap D g := C
  have hl : lv_has ls 1 [(0, .int x0)] := hl
  unfold fX11_less at h
  refine lv_iload_n hx hb dX11_less_0 rfl (lv_at hl 0 rfl) ?_
  refine lv_if_le (tgt := 10) hx hb dX11_less_1 (by decide) (fun t1 => ?_) (fun t1 => ?_)
  · rw [if_pos t1] at h
    refine lv_iconst (v := 0) hx hb dX11_less_10 (by decide) ?_
    subst h
    exact hret _ _ _ _ hw rfl dX11_less_11
  · rw [if_neg t1] at h
    refine lv_iload_n hx hb dX11_less_4 rfl (lv_at hl 0 rfl) ?_
    refine lv_iconst (v := 1) hx hb dX11_less_5 (by decide) ?_
    refine lv_isub hx hb dX11_less_6 ?_
    refine lv_goto (tgt := 11) hx hb dX11_less_7 (by decide) ?_
    subst h
    exact hret _ _ _ _ hw rfl dX11_less_11
