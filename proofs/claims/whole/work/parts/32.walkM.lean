/-! walks: X11_costBy -/
theorem hX11_costBy : yX11_costBy.cls = RX11 ∧ yX11_costBy.cls ≠ "java/lang/invoke/MethodHandle" ∧ yX11_costBy.cls ≠ "java/lang/invoke/VarHandle" ∧ (parseMethodDescriptor yX11_costBy.desc).map (fun d => d.parameters.length) = some 6 := by decide +kernel
set_option maxHeartbeats 4000000 in
set_option maxRecDepth 100000 in
theorem kX11_costBy (l : Launch) (D : va_G) (g : zG) (ad : Nat → Nat) (σ : zSt) (x1 : Int32) (x2 : Int32) (x3 : Int32) (x4 : Int32) (x5 : Int32) (x6 : Int32) (o : Int32) (h : fX11_costBy σ x1 x2 x3 x4 x5 x6 = some o) : zMi l D g 1 ad yX11_costBy (Cond.code yX11_costBy cX11_costBy 10 (some .int) :: zws) (zRm 1) [.ref (ad 0), .int x1, .int x2, .int x3, .int x4, .int x5, .int x6] σ o σ := by
  refine z_enter_i (by decide) (Nat.le_of_ble_eq_true rfl) ?_
  intro p e s m below meth c A ls Q C hw hl hret
  obtain ⟨hx, hb, hml, hown, hts, hK, hA⟩ := id C
  have hown : s.vm.findClass RX11 = some m.cls := hown
  have C : zCx p c cX11_costBy s _ RX11 m 10 A s.heap D g := C
  have hl : lv_has ls 10 [(0, .ref (ad 0)), (1, .int x1), (2, .int x2), (3, .int x3), (4, .int x4), (5, .int x5), (6, .int x6)] := hl
  unfold fX11_costBy at h
  refine lv_iload hx hb dX11_costBy_0 (lv_at hl 5 rfl) ?_
  refine lv_if_ne (tgt := 9) hx hb dX11_costBy_2 (by decide) (fun t1 => ?_) (fun t1 => ?_)
  · rw [if_neg t1] at h
    refine lv_iload_n hx hb dX11_costBy_9 rfl (lv_at hl 3 rfl) ?_
    refine lv_istore (lv' := [(7, .int x3), (0, .ref (ad 0)), (1, .int x1), (2, .int x2), (3, .int x3), (4, .int x4), (5, .int x5), (6, .int x6)]) hx hb dX11_costBy_10 hl (by decide) rfl (fun ls hl => ?_)
    refine lv_iload hx hb dX11_costBy_12 (lv_at hl 0 rfl) ?_
    refine lv_iload hx hb dX11_costBy_14 (lv_at hl 5 rfl) ?_
    refine lv_iconst (v := 2) hx hb dX11_costBy_16 (by decide) ?_
    refine lv_icmp_eq (tgt := 32) hx hb dX11_costBy_17 (by decide) (fun t2 => ?_) (fun t2 => ?_)
    · rw [if_pos t2] at h
      refine lv_iconst (v := 0) hx hb dX11_costBy_32 (by decide) ?_
      refine lv_iadd hx hb dX11_costBy_33 ?_
      refine lv_istore (lv' := [(7, .int (x3 + (0 : Int32))), (0, .ref (ad 0)), (1, .int x1), (2, .int x2), (3, .int x3), (4, .int x4), (5, .int x5), (6, .int x6)]) hx hb dX11_costBy_34 hl (by decide) rfl (fun ls hl => ?_)
      refine lv_iload hx hb dX11_costBy_36 (lv_at hl 6 rfl) ?_
      refine lv_if_ne (tgt := 48) hx hb dX11_costBy_38 (by decide) (fun t3 => ?_) (fun t3 => ?_)
      · rw [if_neg t3] at h
        refine lv_iload_n hx hb dX11_costBy_48 rfl (lv_at hl 3 rfl) ?_
        refine z_cSi (As := [.int x2]) (rest := []) ⟨hx, hb, hml, hown, hts⟩ hK hw hA (kX11_less l D g ad σ x2 _ rfl) (zcwS 1 hts zgoodIn zw_1149 zw_1150 zw_64 zw_1151 rfl rfl hX11_less ⟨Nat.le_of_ble_eq_true rfl, Nat.le_of_ble_eq_true rfl⟩) rfl hl.1 rfl (Nat.le_of_ble_eq_true rfl) dX11_costBy_49 ⟨Nat.zero_le _, Nat.zero_le _⟩ (fun H locs hw => ?_)
        refine lv_istore (lv' := [(8, .int (fX11_less x2)), (7, .int (x3 + (0 : Int32))), (0, .ref (ad 0)), (1, .int x1), (2, .int x2), (3, .int x3), (4, .int x4), (5, .int x5), (6, .int x6)]) hx hb dX11_costBy_52 hl (by decide) rfl (fun ls hl => ?_)
        refine lv_iload hx hb dX11_costBy_54 (lv_at hl 7 rfl) ?_
        refine lv_iconst (v := 1) hx hb dX11_costBy_56 (by decide) ?_
        refine lv_icmp_ne (tgt := 67) hx hb dX11_costBy_57 (by decide) (fun t4 => ?_) (fun t4 => ?_)
        · rw [if_neg t4] at h
          refine lv_iload_n hx hb dX11_costBy_67 rfl (lv_at hl 5 rfl) ?_
          refine z_cSi (As := [.int x3]) (rest := []) ⟨hx, hb, hml, hown, hts⟩ hK hw hA (kX11_less l D g ad σ x3 _ rfl) (zcwS 1 hts zgoodIn zw_1149 zw_1150 zw_64 zw_1151 rfl rfl hX11_less ⟨Nat.le_of_ble_eq_true rfl, Nat.le_of_ble_eq_true rfl⟩) rfl hl.1 rfl (Nat.le_of_ble_eq_true rfl) dX11_costBy_68 ⟨Nat.zero_le _, Nat.zero_le _⟩ (fun H locs hw => ?_)
          refine lv_istore (lv' := [(9, .int (fX11_less x3)), (8, .int (fX11_less x2)), (7, .int (x3 + (0 : Int32))), (0, .ref (ad 0)), (1, .int x1), (2, .int x2), (3, .int x3), (4, .int x4), (5, .int x5), (6, .int x6)]) hx hb dX11_costBy_71 hl (by decide) rfl (fun ls hl => ?_)
          refine lv_iload hx hb dX11_costBy_73 (lv_at hl 2 rfl) ?_
          refine lv_aload_n hx hb dX11_costBy_75 rfl (lv_at hl 3 rfl) ?_
          refine z_getc hx hb hts zin_X11 hown hK hw zF1_0_26 (hts _ zw_864) dX11_costBy_76 ?_
          refine lv_iload_n hx hb dX11_costBy_79 rfl (lv_at hl 4 rfl) ?_
          refine lv_iconst (v := 1) hx hb dX11_costBy_80 (by decide) ?_
          refine lv_iadd hx hb dX11_costBy_81 ?_
          refine lv_iload hx hb dX11_costBy_82 (lv_at hl 1 rfl) ?_
          refine lv_iload hx hb dX11_costBy_84 (lv_at hl 0 rfl) ?_
          refine lv_iload hx hb dX11_costBy_86 (lv_at hl 8 rfl) ?_
          refine z_cSi (As := [.int (x1 + (1 : Int32)), .int (fX11_less x2), .int (fX11_less x3), .int x5]) (rest := [.ref (ad 17), .int (x3 + (0 : Int32))]) ⟨hx, hb, hml, hown, hts⟩ hK hw hA (kX11_spot l D g ad σ (x1 + (1 : Int32)) (fX11_less x2) (fX11_less x3) x5 _ rfl) (zcwS 4 hts zgoodIn zw_1139 zw_1140 zw_64 zw_1141 rfl rfl hX11_spot ⟨Nat.le_of_ble_eq_true rfl, Nat.le_of_ble_eq_true rfl⟩) rfl hl.1 rfl (Nat.le_of_ble_eq_true rfl) dX11_costBy_88 ⟨Nat.zero_le _, Nat.zero_le _⟩ (fun H locs hw => ?_)
          obtain ⟨v5, e6, h⟩ := zbind h
          refine z_iald hx hb hK hw e6 dX11_costBy_91 ?_
          refine lv_iadd hx hb dX11_costBy_92 ?_
          obtain rfl := Option.some.inj h
          exact hret _ _ _ _ hw rfl dX11_costBy_93
        · rw [if_pos t4] at h
          refine lv_iload_n hx hb dX11_costBy_60 rfl (lv_at hl 5 rfl) ?_
          refine z_cSi (As := [.int x3]) (rest := []) ⟨hx, hb, hml, hown, hts⟩ hK hw hA (kX11_more l D g ad σ x3 _ rfl) (zcwS 1 hts zgoodIn zw_1146 zw_1147 zw_64 zw_1148 rfl rfl hX11_more ⟨Nat.le_of_ble_eq_true rfl, Nat.le_of_ble_eq_true rfl⟩) rfl hl.1 rfl (Nat.le_of_ble_eq_true rfl) dX11_costBy_61 ⟨Nat.zero_le _, Nat.zero_le _⟩ (fun H locs hw => ?_)
          refine lv_goto (tgt := 71) hx hb dX11_costBy_64 (by decide) ?_
          refine lv_istore (lv' := [(9, .int (fX11_more x3)), (8, .int (fX11_less x2)), (7, .int (x3 + (0 : Int32))), (0, .ref (ad 0)), (1, .int x1), (2, .int x2), (3, .int x3), (4, .int x4), (5, .int x5), (6, .int x6)]) hx hb dX11_costBy_71 hl (by decide) rfl (fun ls hl => ?_)
          refine lv_iload hx hb dX11_costBy_73 (lv_at hl 2 rfl) ?_
          refine lv_aload_n hx hb dX11_costBy_75 rfl (lv_at hl 3 rfl) ?_
          refine z_getc hx hb hts zin_X11 hown hK hw zF1_0_26 (hts _ zw_864) dX11_costBy_76 ?_
          refine lv_iload_n hx hb dX11_costBy_79 rfl (lv_at hl 4 rfl) ?_
          refine lv_iconst (v := 1) hx hb dX11_costBy_80 (by decide) ?_
          refine lv_iadd hx hb dX11_costBy_81 ?_
          refine lv_iload hx hb dX11_costBy_82 (lv_at hl 1 rfl) ?_
          refine lv_iload hx hb dX11_costBy_84 (lv_at hl 0 rfl) ?_
          refine lv_iload hx hb dX11_costBy_86 (lv_at hl 8 rfl) ?_
          refine z_cSi (As := [.int (x1 + (1 : Int32)), .int (fX11_less x2), .int (fX11_more x3), .int x5]) (rest := [.ref (ad 17), .int (x3 + (0 : Int32))]) ⟨hx, hb, hml, hown, hts⟩ hK hw hA (kX11_spot l D g ad σ (x1 + (1 : Int32)) (fX11_less x2) (fX11_more x3) x5 _ rfl) (zcwS 4 hts zgoodIn zw_1139 zw_1140 zw_64 zw_1141 rfl rfl hX11_spot ⟨Nat.le_of_ble_eq_true rfl, Nat.le_of_ble_eq_true rfl⟩) rfl hl.1 rfl (Nat.le_of_ble_eq_true rfl) dX11_costBy_88 ⟨Nat.zero_le _, Nat.zero_le _⟩ (fun H locs hw => ?_)
          obtain ⟨v7, e8, h⟩ := zbind h
          refine z_iald hx hb hK hw e8 dX11_costBy_91 ?_
          refine lv_iadd hx hb dX11_costBy_92 ?_
          obtain rfl := Option.some.inj h
          exact hret _ _ _ _ hw rfl dX11_costBy_93
      · rw [if_pos t3] at h
        refine lv_iload_n hx hb dX11_costBy_41 rfl (lv_at hl 3 rfl) ?_
        refine z_cSi (As := [.int x2]) (rest := []) ⟨hx, hb, hml, hown, hts⟩ hK hw hA (kX11_more l D g ad σ x2 _ rfl) (zcwS 1 hts zgoodIn zw_1146 zw_1147 zw_64 zw_1148 rfl rfl hX11_more ⟨Nat.le_of_ble_eq_true rfl, Nat.le_of_ble_eq_true rfl⟩) rfl hl.1 rfl (Nat.le_of_ble_eq_true rfl) dX11_costBy_42 ⟨Nat.zero_le _, Nat.zero_le _⟩ (fun H locs hw => ?_)
        refine lv_goto (tgt := 52) hx hb dX11_costBy_45 (by decide) ?_
        refine lv_istore (lv' := [(8, .int (fX11_more x2)), (7, .int (x3 + (0 : Int32))), (0, .ref (ad 0)), (1, .int x1), (2, .int x2), (3, .int x3), (4, .int x4), (5, .int x5), (6, .int x6)]) hx hb dX11_costBy_52 hl (by decide) rfl (fun ls hl => ?_)
        refine lv_iload hx hb dX11_costBy_54 (lv_at hl 7 rfl) ?_
        refine lv_iconst (v := 1) hx hb dX11_costBy_56 (by decide) ?_
        refine lv_icmp_ne (tgt := 67) hx hb dX11_costBy_57 (by decide) (fun t9 => ?_) (fun t9 => ?_)
        · rw [if_neg t9] at h
          refine lv_iload_n hx hb dX11_costBy_67 rfl (lv_at hl 5 rfl) ?_
          refine z_cSi (As := [.int x3]) (rest := []) ⟨hx, hb, hml, hown, hts⟩ hK hw hA (kX11_less l D g ad σ x3 _ rfl) (zcwS 1 hts zgoodIn zw_1149 zw_1150 zw_64 zw_1151 rfl rfl hX11_less ⟨Nat.le_of_ble_eq_true rfl, Nat.le_of_ble_eq_true rfl⟩) rfl hl.1 rfl (Nat.le_of_ble_eq_true rfl) dX11_costBy_68 ⟨Nat.zero_le _, Nat.zero_le _⟩ (fun H locs hw => ?_)
          refine lv_istore (lv' := [(9, .int (fX11_less x3)), (8, .int (fX11_more x2)), (7, .int (x3 + (0 : Int32))), (0, .ref (ad 0)), (1, .int x1), (2, .int x2), (3, .int x3), (4, .int x4), (5, .int x5), (6, .int x6)]) hx hb dX11_costBy_71 hl (by decide) rfl (fun ls hl => ?_)
          refine lv_iload hx hb dX11_costBy_73 (lv_at hl 2 rfl) ?_
          refine lv_aload_n hx hb dX11_costBy_75 rfl (lv_at hl 3 rfl) ?_
          refine z_getc hx hb hts zin_X11 hown hK hw zF1_0_26 (hts _ zw_864) dX11_costBy_76 ?_
          refine lv_iload_n hx hb dX11_costBy_79 rfl (lv_at hl 4 rfl) ?_
          refine lv_iconst (v := 1) hx hb dX11_costBy_80 (by decide) ?_
          refine lv_iadd hx hb dX11_costBy_81 ?_
          refine lv_iload hx hb dX11_costBy_82 (lv_at hl 1 rfl) ?_
          refine lv_iload hx hb dX11_costBy_84 (lv_at hl 0 rfl) ?_
          refine lv_iload hx hb dX11_costBy_86 (lv_at hl 8 rfl) ?_
          refine z_cSi (As := [.int (x1 + (1 : Int32)), .int (fX11_more x2), .int (fX11_less x3), .int x5]) (rest := [.ref (ad 17), .int (x3 + (0 : Int32))]) ⟨hx, hb, hml, hown, hts⟩ hK hw hA (kX11_spot l D g ad σ (x1 + (1 : Int32)) (fX11_more x2) (fX11_less x3) x5 _ rfl) (zcwS 4 hts zgoodIn zw_1139 zw_1140 zw_64 zw_1141 rfl rfl hX11_spot ⟨Nat.le_of_ble_eq_true rfl, Nat.le_of_ble_eq_true rfl⟩) rfl hl.1 rfl (Nat.le_of_ble_eq_true rfl) dX11_costBy_88 ⟨Nat.zero_le _, Nat.zero_le _⟩ (fun H locs hw => ?_)
          obtain ⟨v10, e11, h⟩ := zbind h
          refine z_iald hx hb hK hw e11 dX11_costBy_91 ?_
          refine lv_iadd hx hb dX11_costBy_92 ?_
          obtain rfl := Option.some.inj h
          exact hret _ _ _ _ hw rfl dX11_costBy_93
        · rw [if_pos t9] at h
          refine lv_iload_n hx hb dX11_costBy_60 rfl (lv_at hl 5 rfl) ?_
          refine z_cSi (As := [.int x3]) (rest := []) ⟨hx, hb, hml, hown, hts⟩ hK hw hA (kX11_more l D g ad σ x3 _ rfl) (zcwS 1 hts zgoodIn zw_1146 zw_1147 zw_64 zw_1148 rfl rfl hX11_more ⟨Nat.le_of_ble_eq_true rfl, Nat.le_of_ble_eq_true rfl⟩) rfl hl.1 rfl (Nat.le_of_ble_eq_true rfl) dX11_costBy_61 ⟨Nat.zero_le _, Nat.zero_le _⟩ (fun H locs hw => ?_)
          refine lv_goto (tgt := 71) hx hb dX11_costBy_64 (by decide) ?_
          refine lv_istore (lv' := [(9, .int (fX11_more x3)), (8, .int (fX11_more x2)), (7, .int (x3 + (0 : Int32))), (0, .ref (ad 0)), (1, .int x1), (2, .int x2), (3, .int x3), (4, .int x4), (5, .int x5), (6, .int x6)]) hx hb dX11_costBy_71 hl (by decide) rfl (fun ls hl => ?_)
          refine lv_iload hx hb dX11_costBy_73 (lv_at hl 2 rfl) ?_
          refine lv_aload_n hx hb dX11_costBy_75 rfl (lv_at hl 3 rfl) ?_
          refine z_getc hx hb hts zin_X11 hown hK hw zF1_0_26 (hts _ zw_864) dX11_costBy_76 ?_
          refine lv_iload_n hx hb dX11_costBy_79 rfl (lv_at hl 4 rfl) ?_
          refine lv_iconst (v := 1) hx hb dX11_costBy_80 (by decide) ?_
          refine lv_iadd hx hb dX11_costBy_81 ?_
          refine lv_iload hx hb dX11_costBy_82 (lv_at hl 1 rfl) ?_
          refine lv_iload hx hb dX11_costBy_84 (lv_at hl 0 rfl) ?_
          refine lv_iload hx hb dX11_costBy_86 (lv_at hl 8 rfl) ?_
          refine z_cSi (As := [.int (x1 + (1 : Int32)), .int (fX11_more x2), .int (fX11_more x3), .int x5]) (rest := [.ref (ad 17), .int (x3 + (0 : Int32))]) ⟨hx, hb, hml, hown, hts⟩ hK hw hA (kX11_spot l D g ad σ (x1 + (1 : Int32)) (fX11_more x2) (fX11_more x3) x5 _ rfl) (zcwS 4 hts zgoodIn zw_1139 zw_1140 zw_64 zw_1141 rfl rfl hX11_spot ⟨Nat.le_of_ble_eq_true rfl, Nat.le_of_ble_eq_true rfl⟩) rfl hl.1 rfl (Nat.le_of_ble_eq_true rfl) dX11_costBy_88 ⟨Nat.zero_le _, Nat.zero_le _⟩ (fun H locs hw => ?_)
          obtain ⟨v12, e13, h⟩ := zbind h
          refine z_iald hx hb hK hw e13 dX11_costBy_91 ?_
          refine lv_iadd hx hb dX11_costBy_92 ?_
          obtain rfl := Option.some.inj h
          exact hret _ _ _ _ hw rfl dX11_costBy_93
    · rw [if_neg t2] at h
      refine lv_iload hx hb dX11_costBy_20 (lv_at hl 5 rfl) ?_
      refine lv_iload hx hb dX11_costBy_22 (lv_at hl 6 rfl) ?_
      refine lv_icmp_eq (tgt := 32) hx hb dX11_costBy_24 (by decide) (fun t14 => ?_) (fun t14 => ?_)
      · rw [if_pos t14] at h
        refine lv_iconst (v := 0) hx hb dX11_costBy_32 (by decide) ?_
        refine lv_iadd hx hb dX11_costBy_33 ?_
        refine lv_istore (lv' := [(7, .int (x3 + (0 : Int32))), (0, .ref (ad 0)), (1, .int x1), (2, .int x2), (3, .int x3), (4, .int x4), (5, .int x5), (6, .int x6)]) hx hb dX11_costBy_34 hl (by decide) rfl (fun ls hl => ?_)
        refine lv_iload hx hb dX11_costBy_36 (lv_at hl 6 rfl) ?_
        refine lv_if_ne (tgt := 48) hx hb dX11_costBy_38 (by decide) (fun t15 => ?_) (fun t15 => ?_)
        · rw [if_neg t15] at h
          refine lv_iload_n hx hb dX11_costBy_48 rfl (lv_at hl 3 rfl) ?_
          refine z_cSi (As := [.int x2]) (rest := []) ⟨hx, hb, hml, hown, hts⟩ hK hw hA (kX11_less l D g ad σ x2 _ rfl) (zcwS 1 hts zgoodIn zw_1149 zw_1150 zw_64 zw_1151 rfl rfl hX11_less ⟨Nat.le_of_ble_eq_true rfl, Nat.le_of_ble_eq_true rfl⟩) rfl hl.1 rfl (Nat.le_of_ble_eq_true rfl) dX11_costBy_49 ⟨Nat.zero_le _, Nat.zero_le _⟩ (fun H locs hw => ?_)
          refine lv_istore (lv' := [(8, .int (fX11_less x2)), (7, .int (x3 + (0 : Int32))), (0, .ref (ad 0)), (1, .int x1), (2, .int x2), (3, .int x3), (4, .int x4), (5, .int x5), (6, .int x6)]) hx hb dX11_costBy_52 hl (by decide) rfl (fun ls hl => ?_)
          refine lv_iload hx hb dX11_costBy_54 (lv_at hl 7 rfl) ?_
          refine lv_iconst (v := 1) hx hb dX11_costBy_56 (by decide) ?_
          refine lv_icmp_ne (tgt := 67) hx hb dX11_costBy_57 (by decide) (fun t16 => ?_) (fun t16 => ?_)
          · rw [if_neg t16] at h
            refine lv_iload_n hx hb dX11_costBy_67 rfl (lv_at hl 5 rfl) ?_
            refine z_cSi (As := [.int x3]) (rest := []) ⟨hx, hb, hml, hown, hts⟩ hK hw hA (kX11_less l D g ad σ x3 _ rfl) (zcwS 1 hts zgoodIn zw_1149 zw_1150 zw_64 zw_1151 rfl rfl hX11_less ⟨Nat.le_of_ble_eq_true rfl, Nat.le_of_ble_eq_true rfl⟩) rfl hl.1 rfl (Nat.le_of_ble_eq_true rfl) dX11_costBy_68 ⟨Nat.zero_le _, Nat.zero_le _⟩ (fun H locs hw => ?_)
            refine lv_istore (lv' := [(9, .int (fX11_less x3)), (8, .int (fX11_less x2)), (7, .int (x3 + (0 : Int32))), (0, .ref (ad 0)), (1, .int x1), (2, .int x2), (3, .int x3), (4, .int x4), (5, .int x5), (6, .int x6)]) hx hb dX11_costBy_71 hl (by decide) rfl (fun ls hl => ?_)
            refine lv_iload hx hb dX11_costBy_73 (lv_at hl 2 rfl) ?_
            refine lv_aload_n hx hb dX11_costBy_75 rfl (lv_at hl 3 rfl) ?_
            refine z_getc hx hb hts zin_X11 hown hK hw zF1_0_26 (hts _ zw_864) dX11_costBy_76 ?_
            refine lv_iload_n hx hb dX11_costBy_79 rfl (lv_at hl 4 rfl) ?_
            refine lv_iconst (v := 1) hx hb dX11_costBy_80 (by decide) ?_
            refine lv_iadd hx hb dX11_costBy_81 ?_
            refine lv_iload hx hb dX11_costBy_82 (lv_at hl 1 rfl) ?_
            refine lv_iload hx hb dX11_costBy_84 (lv_at hl 0 rfl) ?_
            refine lv_iload hx hb dX11_costBy_86 (lv_at hl 8 rfl) ?_
            refine z_cSi (As := [.int (x1 + (1 : Int32)), .int (fX11_less x2), .int (fX11_less x3), .int x5]) (rest := [.ref (ad 17), .int (x3 + (0 : Int32))]) ⟨hx, hb, hml, hown, hts⟩ hK hw hA (kX11_spot l D g ad σ (x1 + (1 : Int32)) (fX11_less x2) (fX11_less x3) x5 _ rfl) (zcwS 4 hts zgoodIn zw_1139 zw_1140 zw_64 zw_1141 rfl rfl hX11_spot ⟨Nat.le_of_ble_eq_true rfl, Nat.le_of_ble_eq_true rfl⟩) rfl hl.1 rfl (Nat.le_of_ble_eq_true rfl) dX11_costBy_88 ⟨Nat.zero_le _, Nat.zero_le _⟩ (fun H locs hw => ?_)
            obtain ⟨v17, e18, h⟩ := zbind h
            refine z_iald hx hb hK hw e18 dX11_costBy_91 ?_
            refine lv_iadd hx hb dX11_costBy_92 ?_
            obtain rfl := Option.some.inj h
            exact hret _ _ _ _ hw rfl dX11_costBy_93
          · rw [if_pos t16] at h
            refine lv_iload_n hx hb dX11_costBy_60 rfl (lv_at hl 5 rfl) ?_
            refine z_cSi (As := [.int x3]) (rest := []) ⟨hx, hb, hml, hown, hts⟩ hK hw hA (kX11_more l D g ad σ x3 _ rfl) (zcwS 1 hts zgoodIn zw_1146 zw_1147 zw_64 zw_1148 rfl rfl hX11_more ⟨Nat.le_of_ble_eq_true rfl, Nat.le_of_ble_eq_true rfl⟩) rfl hl.1 rfl (Nat.le_of_ble_eq_true rfl) dX11_costBy_61 ⟨Nat.zero_le _, Nat.zero_le _⟩ (fun H locs hw => ?_)
            refine lv_goto (tgt := 71) hx hb dX11_costBy_64 (by decide) ?_
            refine lv_istore (lv' := [(9, .int (fX11_more x3)), (8, .int (fX11_less x2)), (7, .int (x3 + (0 : Int32))), (0, .ref (ad 0)), (1, .int x1), (2, .int x2), (3, .int x3), (4, .int x4), (5, .int x5), (6, .int x6)]) hx hb dX11_costBy_71 hl (by decide) rfl (fun ls hl => ?_)
            refine lv_iload hx hb dX11_costBy_73 (lv_at hl 2 rfl) ?_
            refine lv_aload_n hx hb dX11_costBy_75 rfl (lv_at hl 3 rfl) ?_
            refine z_getc hx hb hts zin_X11 hown hK hw zF1_0_26 (hts _ zw_864) dX11_costBy_76 ?_
            refine lv_iload_n hx hb dX11_costBy_79 rfl (lv_at hl 4 rfl) ?_
            refine lv_iconst (v := 1) hx hb dX11_costBy_80 (by decide) ?_
            refine lv_iadd hx hb dX11_costBy_81 ?_
            refine lv_iload hx hb dX11_costBy_82 (lv_at hl 1 rfl) ?_
            refine lv_iload hx hb dX11_costBy_84 (lv_at hl 0 rfl) ?_
            refine lv_iload hx hb dX11_costBy_86 (lv_at hl 8 rfl) ?_
            refine z_cSi (As := [.int (x1 + (1 : Int32)), .int (fX11_less x2), .int (fX11_more x3), .int x5]) (rest := [.ref (ad 17), .int (x3 + (0 : Int32))]) ⟨hx, hb, hml, hown, hts⟩ hK hw hA (kX11_spot l D g ad σ (x1 + (1 : Int32)) (fX11_less x2) (fX11_more x3) x5 _ rfl) (zcwS 4 hts zgoodIn zw_1139 zw_1140 zw_64 zw_1141 rfl rfl hX11_spot ⟨Nat.le_of_ble_eq_true rfl, Nat.le_of_ble_eq_true rfl⟩) rfl hl.1 rfl (Nat.le_of_ble_eq_true rfl) dX11_costBy_88 ⟨Nat.zero_le _, Nat.zero_le _⟩ (fun H locs hw => ?_)
            obtain ⟨v19, e20, h⟩ := zbind h
            refine z_iald hx hb hK hw e20 dX11_costBy_91 ?_
            refine lv_iadd hx hb dX11_costBy_92 ?_
            obtain rfl := Option.some.inj h
            exact hret _ _ _ _ hw rfl dX11_costBy_93
        · rw [if_pos t15] at h
          refine lv_iload_n hx hb dX11_costBy_41 rfl (lv_at hl 3 rfl) ?_
          refine z_cSi (As := [.int x2]) (rest := []) ⟨hx, hb, hml, hown, hts⟩ hK hw hA (kX11_more l D g ad σ x2 _ rfl) (zcwS 1 hts zgoodIn zw_1146 zw_1147 zw_64 zw_1148 rfl rfl hX11_more ⟨Nat.le_of_ble_eq_true rfl, Nat.le_of_ble_eq_true rfl⟩) rfl hl.1 rfl (Nat.le_of_ble_eq_true rfl) dX11_costBy_42 ⟨Nat.zero_le _, Nat.zero_le _⟩ (fun H locs hw => ?_)
          refine lv_goto (tgt := 52) hx hb dX11_costBy_45 (by decide) ?_
          refine lv_istore (lv' := [(8, .int (fX11_more x2)), (7, .int (x3 + (0 : Int32))), (0, .ref (ad 0)), (1, .int x1), (2, .int x2), (3, .int x3), (4, .int x4), (5, .int x5), (6, .int x6)]) hx hb dX11_costBy_52 hl (by decide) rfl (fun ls hl => ?_)
          refine lv_iload hx hb dX11_costBy_54 (lv_at hl 7 rfl) ?_
          refine lv_iconst (v := 1) hx hb dX11_costBy_56 (by decide) ?_
          refine lv_icmp_ne (tgt := 67) hx hb dX11_costBy_57 (by decide) (fun t21 => ?_) (fun t21 => ?_)
          · rw [if_neg t21] at h
            refine lv_iload_n hx hb dX11_costBy_67 rfl (lv_at hl 5 rfl) ?_
            refine z_cSi (As := [.int x3]) (rest := []) ⟨hx, hb, hml, hown, hts⟩ hK hw hA (kX11_less l D g ad σ x3 _ rfl) (zcwS 1 hts zgoodIn zw_1149 zw_1150 zw_64 zw_1151 rfl rfl hX11_less ⟨Nat.le_of_ble_eq_true rfl, Nat.le_of_ble_eq_true rfl⟩) rfl hl.1 rfl (Nat.le_of_ble_eq_true rfl) dX11_costBy_68 ⟨Nat.zero_le _, Nat.zero_le _⟩ (fun H locs hw => ?_)
            refine lv_istore (lv' := [(9, .int (fX11_less x3)), (8, .int (fX11_more x2)), (7, .int (x3 + (0 : Int32))), (0, .ref (ad 0)), (1, .int x1), (2, .int x2), (3, .int x3), (4, .int x4), (5, .int x5), (6, .int x6)]) hx hb dX11_costBy_71 hl (by decide) rfl (fun ls hl => ?_)
            refine lv_iload hx hb dX11_costBy_73 (lv_at hl 2 rfl) ?_
            refine lv_aload_n hx hb dX11_costBy_75 rfl (lv_at hl 3 rfl) ?_
            refine z_getc hx hb hts zin_X11 hown hK hw zF1_0_26 (hts _ zw_864) dX11_costBy_76 ?_
            refine lv_iload_n hx hb dX11_costBy_79 rfl (lv_at hl 4 rfl) ?_
            refine lv_iconst (v := 1) hx hb dX11_costBy_80 (by decide) ?_
            refine lv_iadd hx hb dX11_costBy_81 ?_
            refine lv_iload hx hb dX11_costBy_82 (lv_at hl 1 rfl) ?_
            refine lv_iload hx hb dX11_costBy_84 (lv_at hl 0 rfl) ?_
            refine lv_iload hx hb dX11_costBy_86 (lv_at hl 8 rfl) ?_
            refine z_cSi (As := [.int (x1 + (1 : Int32)), .int (fX11_more x2), .int (fX11_less x3), .int x5]) (rest := [.ref (ad 17), .int (x3 + (0 : Int32))]) ⟨hx, hb, hml, hown, hts⟩ hK hw hA (kX11_spot l D g ad σ (x1 + (1 : Int32)) (fX11_more x2) (fX11_less x3) x5 _ rfl) (zcwS 4 hts zgoodIn zw_1139 zw_1140 zw_64 zw_1141 rfl rfl hX11_spot ⟨Nat.le_of_ble_eq_true rfl, Nat.le_of_ble_eq_true rfl⟩) rfl hl.1 rfl (Nat.le_of_ble_eq_true rfl) dX11_costBy_88 ⟨Nat.zero_le _, Nat.zero_le _⟩ (fun H locs hw => ?_)
            obtain ⟨v22, e23, h⟩ := zbind h
            refine z_iald hx hb hK hw e23 dX11_costBy_91 ?_
            refine lv_iadd hx hb dX11_costBy_92 ?_
            obtain rfl := Option.some.inj h
            exact hret _ _ _ _ hw rfl dX11_costBy_93
          · rw [if_pos t21] at h
            refine lv_iload_n hx hb dX11_costBy_60 rfl (lv_at hl 5 rfl) ?_
            refine z_cSi (As := [.int x3]) (rest := []) ⟨hx, hb, hml, hown, hts⟩ hK hw hA (kX11_more l D g ad σ x3 _ rfl) (zcwS 1 hts zgoodIn zw_1146 zw_1147 zw_64 zw_1148 rfl rfl hX11_more ⟨Nat.le_of_ble_eq_true rfl, Nat.le_of_ble_eq_true rfl⟩) rfl hl.1 rfl (Nat.le_of_ble_eq_true rfl) dX11_costBy_61 ⟨Nat.zero_le _, Nat.zero_le _⟩ (fun H locs hw => ?_)
            refine lv_goto (tgt := 71) hx hb dX11_costBy_64 (by decide) ?_
            refine lv_istore (lv' := [(9, .int (fX11_more x3)), (8, .int (fX11_more x2)), (7, .int (x3 + (0 : Int32))), (0, .ref (ad 0)), (1, .int x1), (2, .int x2), (3, .int x3), (4, .int x4), (5, .int x5), (6, .int x6)]) hx hb dX11_costBy_71 hl (by decide) rfl (fun ls hl => ?_)
            refine lv_iload hx hb dX11_costBy_73 (lv_at hl 2 rfl) ?_
            refine lv_aload_n hx hb dX11_costBy_75 rfl (lv_at hl 3 rfl) ?_
            refine z_getc hx hb hts zin_X11 hown hK hw zF1_0_26 (hts _ zw_864) dX11_costBy_76 ?_
            refine lv_iload_n hx hb dX11_costBy_79 rfl (lv_at hl 4 rfl) ?_
            refine lv_iconst (v := 1) hx hb dX11_costBy_80 (by decide) ?_
            refine lv_iadd hx hb dX11_costBy_81 ?_
            refine lv_iload hx hb dX11_costBy_82 (lv_at hl 1 rfl) ?_
            refine lv_iload hx hb dX11_costBy_84 (lv_at hl 0 rfl) ?_
            refine lv_iload hx hb dX11_costBy_86 (lv_at hl 8 rfl) ?_
            refine z_cSi (As := [.int (x1 + (1 : Int32)), .int (fX11_more x2), .int (fX11_more x3), .int x5]) (rest := [.ref (ad 17), .int (x3 + (0 : Int32))]) ⟨hx, hb, hml, hown, hts⟩ hK hw hA (kX11_spot l D g ad σ (x1 + (1 : Int32)) (fX11_more x2) (fX11_more x3) x5 _ rfl) (zcwS 4 hts zgoodIn zw_1139 zw_1140 zw_64 zw_1141 rfl rfl hX11_spot ⟨Nat.le_of_ble_eq_true rfl, Nat.le_of_ble_eq_true rfl⟩) rfl hl.1 rfl (Nat.le_of_ble_eq_true rfl) dX11_costBy_88 ⟨Nat.zero_le _, Nat.zero_le _⟩ (fun H locs hw => ?_)
            obtain ⟨v24, e25, h⟩ := zbind h
            refine z_iald hx hb hK hw e25 dX11_costBy_91 ?_
            refine lv_iadd hx hb dX11_costBy_92 ?_
            obtain rfl := Option.some.inj h
            exact hret _ _ _ _ hw rfl dX11_costBy_93
      · rw [if_neg t14] at h
        refine lv_iload hx hb dX11_costBy_27 (lv_at hl 7 rfl) ?_
        refine lv_goto (tgt := 33) hx hb dX11_costBy_29 (by decide) ?_
        refine lv_iadd hx hb dX11_costBy_33 ?_
        refine lv_istore (lv' := [(7, .int (x3 + x6)), (0, .ref (ad 0)), (1, .int x1), (2, .int x2), (3, .int x3), (4, .int x4), (5, .int x5), (6, .int x6)]) hx hb dX11_costBy_34 hl (by decide) rfl (fun ls hl => ?_)
        refine lv_iload hx hb dX11_costBy_36 (lv_at hl 6 rfl) ?_
        refine lv_if_ne (tgt := 48) hx hb dX11_costBy_38 (by decide) (fun t26 => ?_) (fun t26 => ?_)
        · rw [if_neg t26] at h
          refine lv_iload_n hx hb dX11_costBy_48 rfl (lv_at hl 3 rfl) ?_
          refine z_cSi (As := [.int x2]) (rest := []) ⟨hx, hb, hml, hown, hts⟩ hK hw hA (kX11_less l D g ad σ x2 _ rfl) (zcwS 1 hts zgoodIn zw_1149 zw_1150 zw_64 zw_1151 rfl rfl hX11_less ⟨Nat.le_of_ble_eq_true rfl, Nat.le_of_ble_eq_true rfl⟩) rfl hl.1 rfl (Nat.le_of_ble_eq_true rfl) dX11_costBy_49 ⟨Nat.zero_le _, Nat.zero_le _⟩ (fun H locs hw => ?_)
          refine lv_istore (lv' := [(8, .int (fX11_less x2)), (7, .int (x3 + x6)), (0, .ref (ad 0)), (1, .int x1), (2, .int x2), (3, .int x3), (4, .int x4), (5, .int x5), (6, .int x6)]) hx hb dX11_costBy_52 hl (by decide) rfl (fun ls hl => ?_)
          refine lv_iload hx hb dX11_costBy_54 (lv_at hl 7 rfl) ?_
          refine lv_iconst (v := 1) hx hb dX11_costBy_56 (by decide) ?_
          refine lv_icmp_ne (tgt := 67) hx hb dX11_costBy_57 (by decide) (fun t27 => ?_) (fun t27 => ?_)
          · rw [if_neg t27] at h
            refine lv_iload_n hx hb dX11_costBy_67 rfl (lv_at hl 5 rfl) ?_
            refine z_cSi (As := [.int x3]) (rest := []) ⟨hx, hb, hml, hown, hts⟩ hK hw hA (kX11_less l D g ad σ x3 _ rfl) (zcwS 1 hts zgoodIn zw_1149 zw_1150 zw_64 zw_1151 rfl rfl hX11_less ⟨Nat.le_of_ble_eq_true rfl, Nat.le_of_ble_eq_true rfl⟩) rfl hl.1 rfl (Nat.le_of_ble_eq_true rfl) dX11_costBy_68 ⟨Nat.zero_le _, Nat.zero_le _⟩ (fun H locs hw => ?_)
            refine lv_istore (lv' := [(9, .int (fX11_less x3)), (8, .int (fX11_less x2)), (7, .int (x3 + x6)), (0, .ref (ad 0)), (1, .int x1), (2, .int x2), (3, .int x3), (4, .int x4), (5, .int x5), (6, .int x6)]) hx hb dX11_costBy_71 hl (by decide) rfl (fun ls hl => ?_)
            refine lv_iload hx hb dX11_costBy_73 (lv_at hl 2 rfl) ?_
            refine lv_aload_n hx hb dX11_costBy_75 rfl (lv_at hl 3 rfl) ?_
            refine z_getc hx hb hts zin_X11 hown hK hw zF1_0_26 (hts _ zw_864) dX11_costBy_76 ?_
            refine lv_iload_n hx hb dX11_costBy_79 rfl (lv_at hl 4 rfl) ?_
            refine lv_iconst (v := 1) hx hb dX11_costBy_80 (by decide) ?_
            refine lv_iadd hx hb dX11_costBy_81 ?_
            refine lv_iload hx hb dX11_costBy_82 (lv_at hl 1 rfl) ?_
            refine lv_iload hx hb dX11_costBy_84 (lv_at hl 0 rfl) ?_
            refine lv_iload hx hb dX11_costBy_86 (lv_at hl 8 rfl) ?_
            refine z_cSi (As := [.int (x1 + (1 : Int32)), .int (fX11_less x2), .int (fX11_less x3), .int x5]) (rest := [.ref (ad 17), .int (x3 + x6)]) ⟨hx, hb, hml, hown, hts⟩ hK hw hA (kX11_spot l D g ad σ (x1 + (1 : Int32)) (fX11_less x2) (fX11_less x3) x5 _ rfl) (zcwS 4 hts zgoodIn zw_1139 zw_1140 zw_64 zw_1141 rfl rfl hX11_spot ⟨Nat.le_of_ble_eq_true rfl, Nat.le_of_ble_eq_true rfl⟩) rfl hl.1 rfl (Nat.le_of_ble_eq_true rfl) dX11_costBy_88 ⟨Nat.zero_le _, Nat.zero_le _⟩ (fun H locs hw => ?_)
            obtain ⟨v28, e29, h⟩ := zbind h
            refine z_iald hx hb hK hw e29 dX11_costBy_91 ?_
            refine lv_iadd hx hb dX11_costBy_92 ?_
            obtain rfl := Option.some.inj h
            exact hret _ _ _ _ hw rfl dX11_costBy_93
          · rw [if_pos t27] at h
            refine lv_iload_n hx hb dX11_costBy_60 rfl (lv_at hl 5 rfl) ?_
            refine z_cSi (As := [.int x3]) (rest := []) ⟨hx, hb, hml, hown, hts⟩ hK hw hA (kX11_more l D g ad σ x3 _ rfl) (zcwS 1 hts zgoodIn zw_1146 zw_1147 zw_64 zw_1148 rfl rfl hX11_more ⟨Nat.le_of_ble_eq_true rfl, Nat.le_of_ble_eq_true rfl⟩) rfl hl.1 rfl (Nat.le_of_ble_eq_true rfl) dX11_costBy_61 ⟨Nat.zero_le _, Nat.zero_le _⟩ (fun H locs hw => ?_)
            refine lv_goto (tgt := 71) hx hb dX11_costBy_64 (by decide) ?_
            refine lv_istore (lv' := [(9, .int (fX11_more x3)), (8, .int (fX11_less x2)), (7, .int (x3 + x6)), (0, .ref (ad 0)), (1, .int x1), (2, .int x2), (3, .int x3), (4, .int x4), (5, .int x5), (6, .int x6)]) hx hb dX11_costBy_71 hl (by decide) rfl (fun ls hl => ?_)
            refine lv_iload hx hb dX11_costBy_73 (lv_at hl 2 rfl) ?_
            refine lv_aload_n hx hb dX11_costBy_75 rfl (lv_at hl 3 rfl) ?_
            refine z_getc hx hb hts zin_X11 hown hK hw zF1_0_26 (hts _ zw_864) dX11_costBy_76 ?_
            refine lv_iload_n hx hb dX11_costBy_79 rfl (lv_at hl 4 rfl) ?_
            refine lv_iconst (v := 1) hx hb dX11_costBy_80 (by decide) ?_
            refine lv_iadd hx hb dX11_costBy_81 ?_
            refine lv_iload hx hb dX11_costBy_82 (lv_at hl 1 rfl) ?_
            refine lv_iload hx hb dX11_costBy_84 (lv_at hl 0 rfl) ?_
            refine lv_iload hx hb dX11_costBy_86 (lv_at hl 8 rfl) ?_
            refine z_cSi (As := [.int (x1 + (1 : Int32)), .int (fX11_less x2), .int (fX11_more x3), .int x5]) (rest := [.ref (ad 17), .int (x3 + x6)]) ⟨hx, hb, hml, hown, hts⟩ hK hw hA (kX11_spot l D g ad σ (x1 + (1 : Int32)) (fX11_less x2) (fX11_more x3) x5 _ rfl) (zcwS 4 hts zgoodIn zw_1139 zw_1140 zw_64 zw_1141 rfl rfl hX11_spot ⟨Nat.le_of_ble_eq_true rfl, Nat.le_of_ble_eq_true rfl⟩) rfl hl.1 rfl (Nat.le_of_ble_eq_true rfl) dX11_costBy_88 ⟨Nat.zero_le _, Nat.zero_le _⟩ (fun H locs hw => ?_)
            obtain ⟨v30, e31, h⟩ := zbind h
            refine z_iald hx hb hK hw e31 dX11_costBy_91 ?_
            refine lv_iadd hx hb dX11_costBy_92 ?_
            obtain rfl := Option.some.inj h
            exact hret _ _ _ _ hw rfl dX11_costBy_93
        · rw [if_pos t26] at h
          refine lv_iload_n hx hb dX11_costBy_41 rfl (lv_at hl 3 rfl) ?_
          refine z_cSi (As := [.int x2]) (rest := []) ⟨hx, hb, hml, hown, hts⟩ hK hw hA (kX11_more l D g ad σ x2 _ rfl) (zcwS 1 hts zgoodIn zw_1146 zw_1147 zw_64 zw_1148 rfl rfl hX11_more ⟨Nat.le_of_ble_eq_true rfl, Nat.le_of_ble_eq_true rfl⟩) rfl hl.1 rfl (Nat.le_of_ble_eq_true rfl) dX11_costBy_42 ⟨Nat.zero_le _, Nat.zero_le _⟩ (fun H locs hw => ?_)
          refine lv_goto (tgt := 52) hx hb dX11_costBy_45 (by decide) ?_
          refine lv_istore (lv' := [(8, .int (fX11_more x2)), (7, .int (x3 + x6)), (0, .ref (ad 0)), (1, .int x1), (2, .int x2), (3, .int x3), (4, .int x4), (5, .int x5), (6, .int x6)]) hx hb dX11_costBy_52 hl (by decide) rfl (fun ls hl => ?_)
          refine lv_iload hx hb dX11_costBy_54 (lv_at hl 7 rfl) ?_
          refine lv_iconst (v := 1) hx hb dX11_costBy_56 (by decide) ?_
          refine lv_icmp_ne (tgt := 67) hx hb dX11_costBy_57 (by decide) (fun t32 => ?_) (fun t32 => ?_)
          · rw [if_neg t32] at h
            refine lv_iload_n hx hb dX11_costBy_67 rfl (lv_at hl 5 rfl) ?_
            refine z_cSi (As := [.int x3]) (rest := []) ⟨hx, hb, hml, hown, hts⟩ hK hw hA (kX11_less l D g ad σ x3 _ rfl) (zcwS 1 hts zgoodIn zw_1149 zw_1150 zw_64 zw_1151 rfl rfl hX11_less ⟨Nat.le_of_ble_eq_true rfl, Nat.le_of_ble_eq_true rfl⟩) rfl hl.1 rfl (Nat.le_of_ble_eq_true rfl) dX11_costBy_68 ⟨Nat.zero_le _, Nat.zero_le _⟩ (fun H locs hw => ?_)
            refine lv_istore (lv' := [(9, .int (fX11_less x3)), (8, .int (fX11_more x2)), (7, .int (x3 + x6)), (0, .ref (ad 0)), (1, .int x1), (2, .int x2), (3, .int x3), (4, .int x4), (5, .int x5), (6, .int x6)]) hx hb dX11_costBy_71 hl (by decide) rfl (fun ls hl => ?_)
            refine lv_iload hx hb dX11_costBy_73 (lv_at hl 2 rfl) ?_
            refine lv_aload_n hx hb dX11_costBy_75 rfl (lv_at hl 3 rfl) ?_
            refine z_getc hx hb hts zin_X11 hown hK hw zF1_0_26 (hts _ zw_864) dX11_costBy_76 ?_
            refine lv_iload_n hx hb dX11_costBy_79 rfl (lv_at hl 4 rfl) ?_
            refine lv_iconst (v := 1) hx hb dX11_costBy_80 (by decide) ?_
            refine lv_iadd hx hb dX11_costBy_81 ?_
            refine lv_iload hx hb dX11_costBy_82 (lv_at hl 1 rfl) ?_
            refine lv_iload hx hb dX11_costBy_84 (lv_at hl 0 rfl) ?_
            refine lv_iload hx hb dX11_costBy_86 (lv_at hl 8 rfl) ?_
            refine z_cSi (As := [.int (x1 + (1 : Int32)), .int (fX11_more x2), .int (fX11_less x3), .int x5]) (rest := [.ref (ad 17), .int (x3 + x6)]) ⟨hx, hb, hml, hown, hts⟩ hK hw hA (kX11_spot l D g ad σ (x1 + (1 : Int32)) (fX11_more x2) (fX11_less x3) x5 _ rfl) (zcwS 4 hts zgoodIn zw_1139 zw_1140 zw_64 zw_1141 rfl rfl hX11_spot ⟨Nat.le_of_ble_eq_true rfl, Nat.le_of_ble_eq_true rfl⟩) rfl hl.1 rfl (Nat.le_of_ble_eq_true rfl) dX11_costBy_88 ⟨Nat.zero_le _, Nat.zero_le _⟩ (fun H locs hw => ?_)
            obtain ⟨v33, e34, h⟩ := zbind h
            refine z_iald hx hb hK hw e34 dX11_costBy_91 ?_
            refine lv_iadd hx hb dX11_costBy_92 ?_
            obtain rfl := Option.some.inj h
            exact hret _ _ _ _ hw rfl dX11_costBy_93
          · rw [if_pos t32] at h
            refine lv_iload_n hx hb dX11_costBy_60 rfl (lv_at hl 5 rfl) ?_
            refine z_cSi (As := [.int x3]) (rest := []) ⟨hx, hb, hml, hown, hts⟩ hK hw hA (kX11_more l D g ad σ x3 _ rfl) (zcwS 1 hts zgoodIn zw_1146 zw_1147 zw_64 zw_1148 rfl rfl hX11_more ⟨Nat.le_of_ble_eq_true rfl, Nat.le_of_ble_eq_true rfl⟩) rfl hl.1 rfl (Nat.le_of_ble_eq_true rfl) dX11_costBy_61 ⟨Nat.zero_le _, Nat.zero_le _⟩ (fun H locs hw => ?_)
            refine lv_goto (tgt := 71) hx hb dX11_costBy_64 (by decide) ?_
            refine lv_istore (lv' := [(9, .int (fX11_more x3)), (8, .int (fX11_more x2)), (7, .int (x3 + x6)), (0, .ref (ad 0)), (1, .int x1), (2, .int x2), (3, .int x3), (4, .int x4), (5, .int x5), (6, .int x6)]) hx hb dX11_costBy_71 hl (by decide) rfl (fun ls hl => ?_)
            refine lv_iload hx hb dX11_costBy_73 (lv_at hl 2 rfl) ?_
            refine lv_aload_n hx hb dX11_costBy_75 rfl (lv_at hl 3 rfl) ?_
            refine z_getc hx hb hts zin_X11 hown hK hw zF1_0_26 (hts _ zw_864) dX11_costBy_76 ?_
            refine lv_iload_n hx hb dX11_costBy_79 rfl (lv_at hl 4 rfl) ?_
            refine lv_iconst (v := 1) hx hb dX11_costBy_80 (by decide) ?_
            refine lv_iadd hx hb dX11_costBy_81 ?_
            refine lv_iload hx hb dX11_costBy_82 (lv_at hl 1 rfl) ?_
            refine lv_iload hx hb dX11_costBy_84 (lv_at hl 0 rfl) ?_
            refine lv_iload hx hb dX11_costBy_86 (lv_at hl 8 rfl) ?_
            refine z_cSi (As := [.int (x1 + (1 : Int32)), .int (fX11_more x2), .int (fX11_more x3), .int x5]) (rest := [.ref (ad 17), .int (x3 + x6)]) ⟨hx, hb, hml, hown, hts⟩ hK hw hA (kX11_spot l D g ad σ (x1 + (1 : Int32)) (fX11_more x2) (fX11_more x3) x5 _ rfl) (zcwS 4 hts zgoodIn zw_1139 zw_1140 zw_64 zw_1141 rfl rfl hX11_spot ⟨Nat.le_of_ble_eq_true rfl, Nat.le_of_ble_eq_true rfl⟩) rfl hl.1 rfl (Nat.le_of_ble_eq_true rfl) dX11_costBy_88 ⟨Nat.zero_le _, Nat.zero_le _⟩ (fun H locs hw => ?_)
            obtain ⟨v35, e36, h⟩ := zbind h
            refine z_iald hx hb hK hw e36 dX11_costBy_91 ?_
            refine lv_iadd hx hb dX11_costBy_92 ?_
            obtain rfl := Option.some.inj h
            exact hret _ _ _ _ hw rfl dX11_costBy_93
  · rw [if_pos t1] at h
    refine lv_iload_n hx hb dX11_costBy_5 rfl (lv_at hl 2 rfl) ?_
    refine lv_goto (tgt := 10) hx hb dX11_costBy_6 (by decide) ?_
    refine lv_istore (lv' := [(7, .int x2), (0, .ref (ad 0)), (1, .int x1), (2, .int x2), (3, .int x3), (4, .int x4), (5, .int x5), (6, .int x6)]) hx hb dX11_costBy_10 hl (by decide) rfl (fun ls hl => ?_)
    refine lv_iload hx hb dX11_costBy_12 (lv_at hl 0 rfl) ?_
    refine lv_iload hx hb dX11_costBy_14 (lv_at hl 5 rfl) ?_
    refine lv_iconst (v := 2) hx hb dX11_costBy_16 (by decide) ?_
    refine lv_icmp_eq (tgt := 32) hx hb dX11_costBy_17 (by decide) (fun t37 => ?_) (fun t37 => ?_)
    · rw [if_pos t37] at h
      refine lv_iconst (v := 0) hx hb dX11_costBy_32 (by decide) ?_
      refine lv_iadd hx hb dX11_costBy_33 ?_
      refine lv_istore (lv' := [(7, .int (x2 + (0 : Int32))), (0, .ref (ad 0)), (1, .int x1), (2, .int x2), (3, .int x3), (4, .int x4), (5, .int x5), (6, .int x6)]) hx hb dX11_costBy_34 hl (by decide) rfl (fun ls hl => ?_)
      refine lv_iload hx hb dX11_costBy_36 (lv_at hl 6 rfl) ?_
      refine lv_if_ne (tgt := 48) hx hb dX11_costBy_38 (by decide) (fun t38 => ?_) (fun t38 => ?_)
      · rw [if_neg t38] at h
        refine lv_iload_n hx hb dX11_costBy_48 rfl (lv_at hl 3 rfl) ?_
        refine z_cSi (As := [.int x2]) (rest := []) ⟨hx, hb, hml, hown, hts⟩ hK hw hA (kX11_less l D g ad σ x2 _ rfl) (zcwS 1 hts zgoodIn zw_1149 zw_1150 zw_64 zw_1151 rfl rfl hX11_less ⟨Nat.le_of_ble_eq_true rfl, Nat.le_of_ble_eq_true rfl⟩) rfl hl.1 rfl (Nat.le_of_ble_eq_true rfl) dX11_costBy_49 ⟨Nat.zero_le _, Nat.zero_le _⟩ (fun H locs hw => ?_)
        refine lv_istore (lv' := [(8, .int (fX11_less x2)), (7, .int (x2 + (0 : Int32))), (0, .ref (ad 0)), (1, .int x1), (2, .int x2), (3, .int x3), (4, .int x4), (5, .int x5), (6, .int x6)]) hx hb dX11_costBy_52 hl (by decide) rfl (fun ls hl => ?_)
        refine lv_iload hx hb dX11_costBy_54 (lv_at hl 7 rfl) ?_
        refine lv_iconst (v := 1) hx hb dX11_costBy_56 (by decide) ?_
        refine lv_icmp_ne (tgt := 67) hx hb dX11_costBy_57 (by decide) (fun t39 => ?_) (fun t39 => ?_)
        · rw [if_neg t39] at h
          refine lv_iload_n hx hb dX11_costBy_67 rfl (lv_at hl 5 rfl) ?_
          refine z_cSi (As := [.int x3]) (rest := []) ⟨hx, hb, hml, hown, hts⟩ hK hw hA (kX11_less l D g ad σ x3 _ rfl) (zcwS 1 hts zgoodIn zw_1149 zw_1150 zw_64 zw_1151 rfl rfl hX11_less ⟨Nat.le_of_ble_eq_true rfl, Nat.le_of_ble_eq_true rfl⟩) rfl hl.1 rfl (Nat.le_of_ble_eq_true rfl) dX11_costBy_68 ⟨Nat.zero_le _, Nat.zero_le _⟩ (fun H locs hw => ?_)
          refine lv_istore (lv' := [(9, .int (fX11_less x3)), (8, .int (fX11_less x2)), (7, .int (x2 + (0 : Int32))), (0, .ref (ad 0)), (1, .int x1), (2, .int x2), (3, .int x3), (4, .int x4), (5, .int x5), (6, .int x6)]) hx hb dX11_costBy_71 hl (by decide) rfl (fun ls hl => ?_)
          refine lv_iload hx hb dX11_costBy_73 (lv_at hl 2 rfl) ?_
          refine lv_aload_n hx hb dX11_costBy_75 rfl (lv_at hl 3 rfl) ?_
          refine z_getc hx hb hts zin_X11 hown hK hw zF1_0_26 (hts _ zw_864) dX11_costBy_76 ?_
          refine lv_iload_n hx hb dX11_costBy_79 rfl (lv_at hl 4 rfl) ?_
          refine lv_iconst (v := 1) hx hb dX11_costBy_80 (by decide) ?_
          refine lv_iadd hx hb dX11_costBy_81 ?_
          refine lv_iload hx hb dX11_costBy_82 (lv_at hl 1 rfl) ?_
          refine lv_iload hx hb dX11_costBy_84 (lv_at hl 0 rfl) ?_
          refine lv_iload hx hb dX11_costBy_86 (lv_at hl 8 rfl) ?_
          refine z_cSi (As := [.int (x1 + (1 : Int32)), .int (fX11_less x2), .int (fX11_less x3), .int x5]) (rest := [.ref (ad 17), .int (x2 + (0 : Int32))]) ⟨hx, hb, hml, hown, hts⟩ hK hw hA (kX11_spot l D g ad σ (x1 + (1 : Int32)) (fX11_less x2) (fX11_less x3) x5 _ rfl) (zcwS 4 hts zgoodIn zw_1139 zw_1140 zw_64 zw_1141 rfl rfl hX11_spot ⟨Nat.le_of_ble_eq_true rfl, Nat.le_of_ble_eq_true rfl⟩) rfl hl.1 rfl (Nat.le_of_ble_eq_true rfl) dX11_costBy_88 ⟨Nat.zero_le _, Nat.zero_le _⟩ (fun H locs hw => ?_)
          obtain ⟨v40, e41, h⟩ := zbind h
          refine z_iald hx hb hK hw e41 dX11_costBy_91 ?_
          refine lv_iadd hx hb dX11_costBy_92 ?_
          obtain rfl := Option.some.inj h
          exact hret _ _ _ _ hw rfl dX11_costBy_93
        · rw [if_pos t39] at h
          refine lv_iload_n hx hb dX11_costBy_60 rfl (lv_at hl 5 rfl) ?_
          refine z_cSi (As := [.int x3]) (rest := []) ⟨hx, hb, hml, hown, hts⟩ hK hw hA (kX11_more l D g ad σ x3 _ rfl) (zcwS 1 hts zgoodIn zw_1146 zw_1147 zw_64 zw_1148 rfl rfl hX11_more ⟨Nat.le_of_ble_eq_true rfl, Nat.le_of_ble_eq_true rfl⟩) rfl hl.1 rfl (Nat.le_of_ble_eq_true rfl) dX11_costBy_61 ⟨Nat.zero_le _, Nat.zero_le _⟩ (fun H locs hw => ?_)
          refine lv_goto (tgt := 71) hx hb dX11_costBy_64 (by decide) ?_
          refine lv_istore (lv' := [(9, .int (fX11_more x3)), (8, .int (fX11_less x2)), (7, .int (x2 + (0 : Int32))), (0, .ref (ad 0)), (1, .int x1), (2, .int x2), (3, .int x3), (4, .int x4), (5, .int x5), (6, .int x6)]) hx hb dX11_costBy_71 hl (by decide) rfl (fun ls hl => ?_)
          refine lv_iload hx hb dX11_costBy_73 (lv_at hl 2 rfl) ?_
          refine lv_aload_n hx hb dX11_costBy_75 rfl (lv_at hl 3 rfl) ?_
          refine z_getc hx hb hts zin_X11 hown hK hw zF1_0_26 (hts _ zw_864) dX11_costBy_76 ?_
          refine lv_iload_n hx hb dX11_costBy_79 rfl (lv_at hl 4 rfl) ?_
          refine lv_iconst (v := 1) hx hb dX11_costBy_80 (by decide) ?_
          refine lv_iadd hx hb dX11_costBy_81 ?_
          refine lv_iload hx hb dX11_costBy_82 (lv_at hl 1 rfl) ?_
          refine lv_iload hx hb dX11_costBy_84 (lv_at hl 0 rfl) ?_
          refine lv_iload hx hb dX11_costBy_86 (lv_at hl 8 rfl) ?_
          refine z_cSi (As := [.int (x1 + (1 : Int32)), .int (fX11_less x2), .int (fX11_more x3), .int x5]) (rest := [.ref (ad 17), .int (x2 + (0 : Int32))]) ⟨hx, hb, hml, hown, hts⟩ hK hw hA (kX11_spot l D g ad σ (x1 + (1 : Int32)) (fX11_less x2) (fX11_more x3) x5 _ rfl) (zcwS 4 hts zgoodIn zw_1139 zw_1140 zw_64 zw_1141 rfl rfl hX11_spot ⟨Nat.le_of_ble_eq_true rfl, Nat.le_of_ble_eq_true rfl⟩) rfl hl.1 rfl (Nat.le_of_ble_eq_true rfl) dX11_costBy_88 ⟨Nat.zero_le _, Nat.zero_le _⟩ (fun H locs hw => ?_)
          obtain ⟨v42, e43, h⟩ := zbind h
          refine z_iald hx hb hK hw e43 dX11_costBy_91 ?_
          refine lv_iadd hx hb dX11_costBy_92 ?_
          obtain rfl := Option.some.inj h
          exact hret _ _ _ _ hw rfl dX11_costBy_93
      · rw [if_pos t38] at h
        refine lv_iload_n hx hb dX11_costBy_41 rfl (lv_at hl 3 rfl) ?_
        refine z_cSi (As := [.int x2]) (rest := []) ⟨hx, hb, hml, hown, hts⟩ hK hw hA (kX11_more l D g ad σ x2 _ rfl) (zcwS 1 hts zgoodIn zw_1146 zw_1147 zw_64 zw_1148 rfl rfl hX11_more ⟨Nat.le_of_ble_eq_true rfl, Nat.le_of_ble_eq_true rfl⟩) rfl hl.1 rfl (Nat.le_of_ble_eq_true rfl) dX11_costBy_42 ⟨Nat.zero_le _, Nat.zero_le _⟩ (fun H locs hw => ?_)
        refine lv_goto (tgt := 52) hx hb dX11_costBy_45 (by decide) ?_
        refine lv_istore (lv' := [(8, .int (fX11_more x2)), (7, .int (x2 + (0 : Int32))), (0, .ref (ad 0)), (1, .int x1), (2, .int x2), (3, .int x3), (4, .int x4), (5, .int x5), (6, .int x6)]) hx hb dX11_costBy_52 hl (by decide) rfl (fun ls hl => ?_)
        refine lv_iload hx hb dX11_costBy_54 (lv_at hl 7 rfl) ?_
        refine lv_iconst (v := 1) hx hb dX11_costBy_56 (by decide) ?_
        refine lv_icmp_ne (tgt := 67) hx hb dX11_costBy_57 (by decide) (fun t44 => ?_) (fun t44 => ?_)
        · rw [if_neg t44] at h
          refine lv_iload_n hx hb dX11_costBy_67 rfl (lv_at hl 5 rfl) ?_
          refine z_cSi (As := [.int x3]) (rest := []) ⟨hx, hb, hml, hown, hts⟩ hK hw hA (kX11_less l D g ad σ x3 _ rfl) (zcwS 1 hts zgoodIn zw_1149 zw_1150 zw_64 zw_1151 rfl rfl hX11_less ⟨Nat.le_of_ble_eq_true rfl, Nat.le_of_ble_eq_true rfl⟩) rfl hl.1 rfl (Nat.le_of_ble_eq_true rfl) dX11_costBy_68 ⟨Nat.zero_le _, Nat.zero_le _⟩ (fun H locs hw => ?_)
          refine lv_istore (lv' := [(9, .int (fX11_less x3)), (8, .int (fX11_more x2)), (7, .int (x2 + (0 : Int32))), (0, .ref (ad 0)), (1, .int x1), (2, .int x2), (3, .int x3), (4, .int x4), (5, .int x5), (6, .int x6)]) hx hb dX11_costBy_71 hl (by decide) rfl (fun ls hl => ?_)
          refine lv_iload hx hb dX11_costBy_73 (lv_at hl 2 rfl) ?_
          refine lv_aload_n hx hb dX11_costBy_75 rfl (lv_at hl 3 rfl) ?_
          refine z_getc hx hb hts zin_X11 hown hK hw zF1_0_26 (hts _ zw_864) dX11_costBy_76 ?_
          refine lv_iload_n hx hb dX11_costBy_79 rfl (lv_at hl 4 rfl) ?_
          refine lv_iconst (v := 1) hx hb dX11_costBy_80 (by decide) ?_
          refine lv_iadd hx hb dX11_costBy_81 ?_
          refine lv_iload hx hb dX11_costBy_82 (lv_at hl 1 rfl) ?_
          refine lv_iload hx hb dX11_costBy_84 (lv_at hl 0 rfl) ?_
          refine lv_iload hx hb dX11_costBy_86 (lv_at hl 8 rfl) ?_
          refine z_cSi (As := [.int (x1 + (1 : Int32)), .int (fX11_more x2), .int (fX11_less x3), .int x5]) (rest := [.ref (ad 17), .int (x2 + (0 : Int32))]) ⟨hx, hb, hml, hown, hts⟩ hK hw hA (kX11_spot l D g ad σ (x1 + (1 : Int32)) (fX11_more x2) (fX11_less x3) x5 _ rfl) (zcwS 4 hts zgoodIn zw_1139 zw_1140 zw_64 zw_1141 rfl rfl hX11_spot ⟨Nat.le_of_ble_eq_true rfl, Nat.le_of_ble_eq_true rfl⟩) rfl hl.1 rfl (Nat.le_of_ble_eq_true rfl) dX11_costBy_88 ⟨Nat.zero_le _, Nat.zero_le _⟩ (fun H locs hw => ?_)
          obtain ⟨v45, e46, h⟩ := zbind h
          refine z_iald hx hb hK hw e46 dX11_costBy_91 ?_
          refine lv_iadd hx hb dX11_costBy_92 ?_
          obtain rfl := Option.some.inj h
          exact hret _ _ _ _ hw rfl dX11_costBy_93
        · rw [if_pos t44] at h
          refine lv_iload_n hx hb dX11_costBy_60 rfl (lv_at hl 5 rfl) ?_
          refine z_cSi (As := [.int x3]) (rest := []) ⟨hx, hb, hml, hown, hts⟩ hK hw hA (kX11_more l D g ad σ x3 _ rfl) (zcwS 1 hts zgoodIn zw_1146 zw_1147 zw_64 zw_1148 rfl rfl hX11_more ⟨Nat.le_of_ble_eq_true rfl, Nat.le_of_ble_eq_true rfl⟩) rfl hl.1 rfl (Nat.le_of_ble_eq_true rfl) dX11_costBy_61 ⟨Nat.zero_le _, Nat.zero_le _⟩ (fun H locs hw => ?_)
          refine lv_goto (tgt := 71) hx hb dX11_costBy_64 (by decide) ?_
          refine lv_istore (lv' := [(9, .int (fX11_more x3)), (8, .int (fX11_more x2)), (7, .int (x2 + (0 : Int32))), (0, .ref (ad 0)), (1, .int x1), (2, .int x2), (3, .int x3), (4, .int x4), (5, .int x5), (6, .int x6)]) hx hb dX11_costBy_71 hl (by decide) rfl (fun ls hl => ?_)
          refine lv_iload hx hb dX11_costBy_73 (lv_at hl 2 rfl) ?_
          refine lv_aload_n hx hb dX11_costBy_75 rfl (lv_at hl 3 rfl) ?_
          refine z_getc hx hb hts zin_X11 hown hK hw zF1_0_26 (hts _ zw_864) dX11_costBy_76 ?_
          refine lv_iload_n hx hb dX11_costBy_79 rfl (lv_at hl 4 rfl) ?_
          refine lv_iconst (v := 1) hx hb dX11_costBy_80 (by decide) ?_
          refine lv_iadd hx hb dX11_costBy_81 ?_
          refine lv_iload hx hb dX11_costBy_82 (lv_at hl 1 rfl) ?_
          refine lv_iload hx hb dX11_costBy_84 (lv_at hl 0 rfl) ?_
          refine lv_iload hx hb dX11_costBy_86 (lv_at hl 8 rfl) ?_
          refine z_cSi (As := [.int (x1 + (1 : Int32)), .int (fX11_more x2), .int (fX11_more x3), .int x5]) (rest := [.ref (ad 17), .int (x2 + (0 : Int32))]) ⟨hx, hb, hml, hown, hts⟩ hK hw hA (kX11_spot l D g ad σ (x1 + (1 : Int32)) (fX11_more x2) (fX11_more x3) x5 _ rfl) (zcwS 4 hts zgoodIn zw_1139 zw_1140 zw_64 zw_1141 rfl rfl hX11_spot ⟨Nat.le_of_ble_eq_true rfl, Nat.le_of_ble_eq_true rfl⟩) rfl hl.1 rfl (Nat.le_of_ble_eq_true rfl) dX11_costBy_88 ⟨Nat.zero_le _, Nat.zero_le _⟩ (fun H locs hw => ?_)
          obtain ⟨v47, e48, h⟩ := zbind h
          refine z_iald hx hb hK hw e48 dX11_costBy_91 ?_
          refine lv_iadd hx hb dX11_costBy_92 ?_
          obtain rfl := Option.some.inj h
          exact hret _ _ _ _ hw rfl dX11_costBy_93
    · rw [if_neg t37] at h
      refine lv_iload hx hb dX11_costBy_20 (lv_at hl 5 rfl) ?_
      refine lv_iload hx hb dX11_costBy_22 (lv_at hl 6 rfl) ?_
      refine lv_icmp_eq (tgt := 32) hx hb dX11_costBy_24 (by decide) (fun t49 => ?_) (fun t49 => ?_)
      · rw [if_pos t49] at h
        refine lv_iconst (v := 0) hx hb dX11_costBy_32 (by decide) ?_
        refine lv_iadd hx hb dX11_costBy_33 ?_
        refine lv_istore (lv' := [(7, .int (x2 + (0 : Int32))), (0, .ref (ad 0)), (1, .int x1), (2, .int x2), (3, .int x3), (4, .int x4), (5, .int x5), (6, .int x6)]) hx hb dX11_costBy_34 hl (by decide) rfl (fun ls hl => ?_)
        refine lv_iload hx hb dX11_costBy_36 (lv_at hl 6 rfl) ?_
        refine lv_if_ne (tgt := 48) hx hb dX11_costBy_38 (by decide) (fun t50 => ?_) (fun t50 => ?_)
        · rw [if_neg t50] at h
          refine lv_iload_n hx hb dX11_costBy_48 rfl (lv_at hl 3 rfl) ?_
          refine z_cSi (As := [.int x2]) (rest := []) ⟨hx, hb, hml, hown, hts⟩ hK hw hA (kX11_less l D g ad σ x2 _ rfl) (zcwS 1 hts zgoodIn zw_1149 zw_1150 zw_64 zw_1151 rfl rfl hX11_less ⟨Nat.le_of_ble_eq_true rfl, Nat.le_of_ble_eq_true rfl⟩) rfl hl.1 rfl (Nat.le_of_ble_eq_true rfl) dX11_costBy_49 ⟨Nat.zero_le _, Nat.zero_le _⟩ (fun H locs hw => ?_)
          refine lv_istore (lv' := [(8, .int (fX11_less x2)), (7, .int (x2 + (0 : Int32))), (0, .ref (ad 0)), (1, .int x1), (2, .int x2), (3, .int x3), (4, .int x4), (5, .int x5), (6, .int x6)]) hx hb dX11_costBy_52 hl (by decide) rfl (fun ls hl => ?_)
          refine lv_iload hx hb dX11_costBy_54 (lv_at hl 7 rfl) ?_
          refine lv_iconst (v := 1) hx hb dX11_costBy_56 (by decide) ?_
          refine lv_icmp_ne (tgt := 67) hx hb dX11_costBy_57 (by decide) (fun t51 => ?_) (fun t51 => ?_)
          · rw [if_neg t51] at h
            refine lv_iload_n hx hb dX11_costBy_67 rfl (lv_at hl 5 rfl) ?_
            refine z_cSi (As := [.int x3]) (rest := []) ⟨hx, hb, hml, hown, hts⟩ hK hw hA (kX11_less l D g ad σ x3 _ rfl) (zcwS 1 hts zgoodIn zw_1149 zw_1150 zw_64 zw_1151 rfl rfl hX11_less ⟨Nat.le_of_ble_eq_true rfl, Nat.le_of_ble_eq_true rfl⟩) rfl hl.1 rfl (Nat.le_of_ble_eq_true rfl) dX11_costBy_68 ⟨Nat.zero_le _, Nat.zero_le _⟩ (fun H locs hw => ?_)
            refine lv_istore (lv' := [(9, .int (fX11_less x3)), (8, .int (fX11_less x2)), (7, .int (x2 + (0 : Int32))), (0, .ref (ad 0)), (1, .int x1), (2, .int x2), (3, .int x3), (4, .int x4), (5, .int x5), (6, .int x6)]) hx hb dX11_costBy_71 hl (by decide) rfl (fun ls hl => ?_)
            refine lv_iload hx hb dX11_costBy_73 (lv_at hl 2 rfl) ?_
            refine lv_aload_n hx hb dX11_costBy_75 rfl (lv_at hl 3 rfl) ?_
            refine z_getc hx hb hts zin_X11 hown hK hw zF1_0_26 (hts _ zw_864) dX11_costBy_76 ?_
            refine lv_iload_n hx hb dX11_costBy_79 rfl (lv_at hl 4 rfl) ?_
            refine lv_iconst (v := 1) hx hb dX11_costBy_80 (by decide) ?_
            refine lv_iadd hx hb dX11_costBy_81 ?_
            refine lv_iload hx hb dX11_costBy_82 (lv_at hl 1 rfl) ?_
            refine lv_iload hx hb dX11_costBy_84 (lv_at hl 0 rfl) ?_
            refine lv_iload hx hb dX11_costBy_86 (lv_at hl 8 rfl) ?_
            refine z_cSi (As := [.int (x1 + (1 : Int32)), .int (fX11_less x2), .int (fX11_less x3), .int x5]) (rest := [.ref (ad 17), .int (x2 + (0 : Int32))]) ⟨hx, hb, hml, hown, hts⟩ hK hw hA (kX11_spot l D g ad σ (x1 + (1 : Int32)) (fX11_less x2) (fX11_less x3) x5 _ rfl) (zcwS 4 hts zgoodIn zw_1139 zw_1140 zw_64 zw_1141 rfl rfl hX11_spot ⟨Nat.le_of_ble_eq_true rfl, Nat.le_of_ble_eq_true rfl⟩) rfl hl.1 rfl (Nat.le_of_ble_eq_true rfl) dX11_costBy_88 ⟨Nat.zero_le _, Nat.zero_le _⟩ (fun H locs hw => ?_)
            obtain ⟨v52, e53, h⟩ := zbind h
            refine z_iald hx hb hK hw e53 dX11_costBy_91 ?_
            refine lv_iadd hx hb dX11_costBy_92 ?_
            obtain rfl := Option.some.inj h
            exact hret _ _ _ _ hw rfl dX11_costBy_93
          · rw [if_pos t51] at h
            refine lv_iload_n hx hb dX11_costBy_60 rfl (lv_at hl 5 rfl) ?_
            refine z_cSi (As := [.int x3]) (rest := []) ⟨hx, hb, hml, hown, hts⟩ hK hw hA (kX11_more l D g ad σ x3 _ rfl) (zcwS 1 hts zgoodIn zw_1146 zw_1147 zw_64 zw_1148 rfl rfl hX11_more ⟨Nat.le_of_ble_eq_true rfl, Nat.le_of_ble_eq_true rfl⟩) rfl hl.1 rfl (Nat.le_of_ble_eq_true rfl) dX11_costBy_61 ⟨Nat.zero_le _, Nat.zero_le _⟩ (fun H locs hw => ?_)
            refine lv_goto (tgt := 71) hx hb dX11_costBy_64 (by decide) ?_
            refine lv_istore (lv' := [(9, .int (fX11_more x3)), (8, .int (fX11_less x2)), (7, .int (x2 + (0 : Int32))), (0, .ref (ad 0)), (1, .int x1), (2, .int x2), (3, .int x3), (4, .int x4), (5, .int x5), (6, .int x6)]) hx hb dX11_costBy_71 hl (by decide) rfl (fun ls hl => ?_)
            refine lv_iload hx hb dX11_costBy_73 (lv_at hl 2 rfl) ?_
            refine lv_aload_n hx hb dX11_costBy_75 rfl (lv_at hl 3 rfl) ?_
            refine z_getc hx hb hts zin_X11 hown hK hw zF1_0_26 (hts _ zw_864) dX11_costBy_76 ?_
            refine lv_iload_n hx hb dX11_costBy_79 rfl (lv_at hl 4 rfl) ?_
            refine lv_iconst (v := 1) hx hb dX11_costBy_80 (by decide) ?_
            refine lv_iadd hx hb dX11_costBy_81 ?_
            refine lv_iload hx hb dX11_costBy_82 (lv_at hl 1 rfl) ?_
            refine lv_iload hx hb dX11_costBy_84 (lv_at hl 0 rfl) ?_
            refine lv_iload hx hb dX11_costBy_86 (lv_at hl 8 rfl) ?_
            refine z_cSi (As := [.int (x1 + (1 : Int32)), .int (fX11_less x2), .int (fX11_more x3), .int x5]) (rest := [.ref (ad 17), .int (x2 + (0 : Int32))]) ⟨hx, hb, hml, hown, hts⟩ hK hw hA (kX11_spot l D g ad σ (x1 + (1 : Int32)) (fX11_less x2) (fX11_more x3) x5 _ rfl) (zcwS 4 hts zgoodIn zw_1139 zw_1140 zw_64 zw_1141 rfl rfl hX11_spot ⟨Nat.le_of_ble_eq_true rfl, Nat.le_of_ble_eq_true rfl⟩) rfl hl.1 rfl (Nat.le_of_ble_eq_true rfl) dX11_costBy_88 ⟨Nat.zero_le _, Nat.zero_le _⟩ (fun H locs hw => ?_)
            obtain ⟨v54, e55, h⟩ := zbind h
            refine z_iald hx hb hK hw e55 dX11_costBy_91 ?_
            refine lv_iadd hx hb dX11_costBy_92 ?_
            obtain rfl := Option.some.inj h
            exact hret _ _ _ _ hw rfl dX11_costBy_93
        · rw [if_pos t50] at h
          refine lv_iload_n hx hb dX11_costBy_41 rfl (lv_at hl 3 rfl) ?_
          refine z_cSi (As := [.int x2]) (rest := []) ⟨hx, hb, hml, hown, hts⟩ hK hw hA (kX11_more l D g ad σ x2 _ rfl) (zcwS 1 hts zgoodIn zw_1146 zw_1147 zw_64 zw_1148 rfl rfl hX11_more ⟨Nat.le_of_ble_eq_true rfl, Nat.le_of_ble_eq_true rfl⟩) rfl hl.1 rfl (Nat.le_of_ble_eq_true rfl) dX11_costBy_42 ⟨Nat.zero_le _, Nat.zero_le _⟩ (fun H locs hw => ?_)
          refine lv_goto (tgt := 52) hx hb dX11_costBy_45 (by decide) ?_
          refine lv_istore (lv' := [(8, .int (fX11_more x2)), (7, .int (x2 + (0 : Int32))), (0, .ref (ad 0)), (1, .int x1), (2, .int x2), (3, .int x3), (4, .int x4), (5, .int x5), (6, .int x6)]) hx hb dX11_costBy_52 hl (by decide) rfl (fun ls hl => ?_)
          refine lv_iload hx hb dX11_costBy_54 (lv_at hl 7 rfl) ?_
          refine lv_iconst (v := 1) hx hb dX11_costBy_56 (by decide) ?_
          refine lv_icmp_ne (tgt := 67) hx hb dX11_costBy_57 (by decide) (fun t56 => ?_) (fun t56 => ?_)
          · rw [if_neg t56] at h
            refine lv_iload_n hx hb dX11_costBy_67 rfl (lv_at hl 5 rfl) ?_
            refine z_cSi (As := [.int x3]) (rest := []) ⟨hx, hb, hml, hown, hts⟩ hK hw hA (kX11_less l D g ad σ x3 _ rfl) (zcwS 1 hts zgoodIn zw_1149 zw_1150 zw_64 zw_1151 rfl rfl hX11_less ⟨Nat.le_of_ble_eq_true rfl, Nat.le_of_ble_eq_true rfl⟩) rfl hl.1 rfl (Nat.le_of_ble_eq_true rfl) dX11_costBy_68 ⟨Nat.zero_le _, Nat.zero_le _⟩ (fun H locs hw => ?_)
            refine lv_istore (lv' := [(9, .int (fX11_less x3)), (8, .int (fX11_more x2)), (7, .int (x2 + (0 : Int32))), (0, .ref (ad 0)), (1, .int x1), (2, .int x2), (3, .int x3), (4, .int x4), (5, .int x5), (6, .int x6)]) hx hb dX11_costBy_71 hl (by decide) rfl (fun ls hl => ?_)
            refine lv_iload hx hb dX11_costBy_73 (lv_at hl 2 rfl) ?_
            refine lv_aload_n hx hb dX11_costBy_75 rfl (lv_at hl 3 rfl) ?_
            refine z_getc hx hb hts zin_X11 hown hK hw zF1_0_26 (hts _ zw_864) dX11_costBy_76 ?_
            refine lv_iload_n hx hb dX11_costBy_79 rfl (lv_at hl 4 rfl) ?_
            refine lv_iconst (v := 1) hx hb dX11_costBy_80 (by decide) ?_
            refine lv_iadd hx hb dX11_costBy_81 ?_
            refine lv_iload hx hb dX11_costBy_82 (lv_at hl 1 rfl) ?_
            refine lv_iload hx hb dX11_costBy_84 (lv_at hl 0 rfl) ?_
            refine lv_iload hx hb dX11_costBy_86 (lv_at hl 8 rfl) ?_
            refine z_cSi (As := [.int (x1 + (1 : Int32)), .int (fX11_more x2), .int (fX11_less x3), .int x5]) (rest := [.ref (ad 17), .int (x2 + (0 : Int32))]) ⟨hx, hb, hml, hown, hts⟩ hK hw hA (kX11_spot l D g ad σ (x1 + (1 : Int32)) (fX11_more x2) (fX11_less x3) x5 _ rfl) (zcwS 4 hts zgoodIn zw_1139 zw_1140 zw_64 zw_1141 rfl rfl hX11_spot ⟨Nat.le_of_ble_eq_true rfl, Nat.le_of_ble_eq_true rfl⟩) rfl hl.1 rfl (Nat.le_of_ble_eq_true rfl) dX11_costBy_88 ⟨Nat.zero_le _, Nat.zero_le _⟩ (fun H locs hw => ?_)
            obtain ⟨v57, e58, h⟩ := zbind h
            refine z_iald hx hb hK hw e58 dX11_costBy_91 ?_
            refine lv_iadd hx hb dX11_costBy_92 ?_
            obtain rfl := Option.some.inj h
            exact hret _ _ _ _ hw rfl dX11_costBy_93
          · rw [if_pos t56] at h
            refine lv_iload_n hx hb dX11_costBy_60 rfl (lv_at hl 5 rfl) ?_
            refine z_cSi (As := [.int x3]) (rest := []) ⟨hx, hb, hml, hown, hts⟩ hK hw hA (kX11_more l D g ad σ x3 _ rfl) (zcwS 1 hts zgoodIn zw_1146 zw_1147 zw_64 zw_1148 rfl rfl hX11_more ⟨Nat.le_of_ble_eq_true rfl, Nat.le_of_ble_eq_true rfl⟩) rfl hl.1 rfl (Nat.le_of_ble_eq_true rfl) dX11_costBy_61 ⟨Nat.zero_le _, Nat.zero_le _⟩ (fun H locs hw => ?_)
            refine lv_goto (tgt := 71) hx hb dX11_costBy_64 (by decide) ?_
            refine lv_istore (lv' := [(9, .int (fX11_more x3)), (8, .int (fX11_more x2)), (7, .int (x2 + (0 : Int32))), (0, .ref (ad 0)), (1, .int x1), (2, .int x2), (3, .int x3), (4, .int x4), (5, .int x5), (6, .int x6)]) hx hb dX11_costBy_71 hl (by decide) rfl (fun ls hl => ?_)
            refine lv_iload hx hb dX11_costBy_73 (lv_at hl 2 rfl) ?_
            refine lv_aload_n hx hb dX11_costBy_75 rfl (lv_at hl 3 rfl) ?_
            refine z_getc hx hb hts zin_X11 hown hK hw zF1_0_26 (hts _ zw_864) dX11_costBy_76 ?_
            refine lv_iload_n hx hb dX11_costBy_79 rfl (lv_at hl 4 rfl) ?_
            refine lv_iconst (v := 1) hx hb dX11_costBy_80 (by decide) ?_
            refine lv_iadd hx hb dX11_costBy_81 ?_
            refine lv_iload hx hb dX11_costBy_82 (lv_at hl 1 rfl) ?_
            refine lv_iload hx hb dX11_costBy_84 (lv_at hl 0 rfl) ?_
            refine lv_iload hx hb dX11_costBy_86 (lv_at hl 8 rfl) ?_
            refine z_cSi (As := [.int (x1 + (1 : Int32)), .int (fX11_more x2), .int (fX11_more x3), .int x5]) (rest := [.ref (ad 17), .int (x2 + (0 : Int32))]) ⟨hx, hb, hml, hown, hts⟩ hK hw hA (kX11_spot l D g ad σ (x1 + (1 : Int32)) (fX11_more x2) (fX11_more x3) x5 _ rfl) (zcwS 4 hts zgoodIn zw_1139 zw_1140 zw_64 zw_1141 rfl rfl hX11_spot ⟨Nat.le_of_ble_eq_true rfl, Nat.le_of_ble_eq_true rfl⟩) rfl hl.1 rfl (Nat.le_of_ble_eq_true rfl) dX11_costBy_88 ⟨Nat.zero_le _, Nat.zero_le _⟩ (fun H locs hw => ?_)
            obtain ⟨v59, e60, h⟩ := zbind h
            refine z_iald hx hb hK hw e60 dX11_costBy_91 ?_
            refine lv_iadd hx hb dX11_costBy_92 ?_
            obtain rfl := Option.some.inj h
            exact hret _ _ _ _ hw rfl dX11_costBy_93
      · rw [if_neg t49] at h
        refine lv_iload hx hb dX11_costBy_27 (lv_at hl 7 rfl) ?_
        refine lv_goto (tgt := 33) hx hb dX11_costBy_29 (by decide) ?_
        refine lv_iadd hx hb dX11_costBy_33 ?_
        refine lv_istore (lv' := [(7, .int (x2 + x6)), (0, .ref (ad 0)), (1, .int x1), (2, .int x2), (3, .int x3), (4, .int x4), (5, .int x5), (6, .int x6)]) hx hb dX11_costBy_34 hl (by decide) rfl (fun ls hl => ?_)
        refine lv_iload hx hb dX11_costBy_36 (lv_at hl 6 rfl) ?_
        refine lv_if_ne (tgt := 48) hx hb dX11_costBy_38 (by decide) (fun t61 => ?_) (fun t61 => ?_)
        · rw [if_neg t61] at h
          refine lv_iload_n hx hb dX11_costBy_48 rfl (lv_at hl 3 rfl) ?_
          refine z_cSi (As := [.int x2]) (rest := []) ⟨hx, hb, hml, hown, hts⟩ hK hw hA (kX11_less l D g ad σ x2 _ rfl) (zcwS 1 hts zgoodIn zw_1149 zw_1150 zw_64 zw_1151 rfl rfl hX11_less ⟨Nat.le_of_ble_eq_true rfl, Nat.le_of_ble_eq_true rfl⟩) rfl hl.1 rfl (Nat.le_of_ble_eq_true rfl) dX11_costBy_49 ⟨Nat.zero_le _, Nat.zero_le _⟩ (fun H locs hw => ?_)
          refine lv_istore (lv' := [(8, .int (fX11_less x2)), (7, .int (x2 + x6)), (0, .ref (ad 0)), (1, .int x1), (2, .int x2), (3, .int x3), (4, .int x4), (5, .int x5), (6, .int x6)]) hx hb dX11_costBy_52 hl (by decide) rfl (fun ls hl => ?_)
          refine lv_iload hx hb dX11_costBy_54 (lv_at hl 7 rfl) ?_
          refine lv_iconst (v := 1) hx hb dX11_costBy_56 (by decide) ?_
          refine lv_icmp_ne (tgt := 67) hx hb dX11_costBy_57 (by decide) (fun t62 => ?_) (fun t62 => ?_)
          · rw [if_neg t62] at h
            refine lv_iload_n hx hb dX11_costBy_67 rfl (lv_at hl 5 rfl) ?_
            refine z_cSi (As := [.int x3]) (rest := []) ⟨hx, hb, hml, hown, hts⟩ hK hw hA (kX11_less l D g ad σ x3 _ rfl) (zcwS 1 hts zgoodIn zw_1149 zw_1150 zw_64 zw_1151 rfl rfl hX11_less ⟨Nat.le_of_ble_eq_true rfl, Nat.le_of_ble_eq_true rfl⟩) rfl hl.1 rfl (Nat.le_of_ble_eq_true rfl) dX11_costBy_68 ⟨Nat.zero_le _, Nat.zero_le _⟩ (fun H locs hw => ?_)
            refine lv_istore (lv' := [(9, .int (fX11_less x3)), (8, .int (fX11_less x2)), (7, .int (x2 + x6)), (0, .ref (ad 0)), (1, .int x1), (2, .int x2), (3, .int x3), (4, .int x4), (5, .int x5), (6, .int x6)]) hx hb dX11_costBy_71 hl (by decide) rfl (fun ls hl => ?_)
            refine lv_iload hx hb dX11_costBy_73 (lv_at hl 2 rfl) ?_
            refine lv_aload_n hx hb dX11_costBy_75 rfl (lv_at hl 3 rfl) ?_
            refine z_getc hx hb hts zin_X11 hown hK hw zF1_0_26 (hts _ zw_864) dX11_costBy_76 ?_
            refine lv_iload_n hx hb dX11_costBy_79 rfl (lv_at hl 4 rfl) ?_
            refine lv_iconst (v := 1) hx hb dX11_costBy_80 (by decide) ?_
            refine lv_iadd hx hb dX11_costBy_81 ?_
            refine lv_iload hx hb dX11_costBy_82 (lv_at hl 1 rfl) ?_
            refine lv_iload hx hb dX11_costBy_84 (lv_at hl 0 rfl) ?_
            refine lv_iload hx hb dX11_costBy_86 (lv_at hl 8 rfl) ?_
            refine z_cSi (As := [.int (x1 + (1 : Int32)), .int (fX11_less x2), .int (fX11_less x3), .int x5]) (rest := [.ref (ad 17), .int (x2 + x6)]) ⟨hx, hb, hml, hown, hts⟩ hK hw hA (kX11_spot l D g ad σ (x1 + (1 : Int32)) (fX11_less x2) (fX11_less x3) x5 _ rfl) (zcwS 4 hts zgoodIn zw_1139 zw_1140 zw_64 zw_1141 rfl rfl hX11_spot ⟨Nat.le_of_ble_eq_true rfl, Nat.le_of_ble_eq_true rfl⟩) rfl hl.1 rfl (Nat.le_of_ble_eq_true rfl) dX11_costBy_88 ⟨Nat.zero_le _, Nat.zero_le _⟩ (fun H locs hw => ?_)
            obtain ⟨v63, e64, h⟩ := zbind h
            refine z_iald hx hb hK hw e64 dX11_costBy_91 ?_
            refine lv_iadd hx hb dX11_costBy_92 ?_
            obtain rfl := Option.some.inj h
            exact hret _ _ _ _ hw rfl dX11_costBy_93
          · rw [if_pos t62] at h
            refine lv_iload_n hx hb dX11_costBy_60 rfl (lv_at hl 5 rfl) ?_
            refine z_cSi (As := [.int x3]) (rest := []) ⟨hx, hb, hml, hown, hts⟩ hK hw hA (kX11_more l D g ad σ x3 _ rfl) (zcwS 1 hts zgoodIn zw_1146 zw_1147 zw_64 zw_1148 rfl rfl hX11_more ⟨Nat.le_of_ble_eq_true rfl, Nat.le_of_ble_eq_true rfl⟩) rfl hl.1 rfl (Nat.le_of_ble_eq_true rfl) dX11_costBy_61 ⟨Nat.zero_le _, Nat.zero_le _⟩ (fun H locs hw => ?_)
            refine lv_goto (tgt := 71) hx hb dX11_costBy_64 (by decide) ?_
            refine lv_istore (lv' := [(9, .int (fX11_more x3)), (8, .int (fX11_less x2)), (7, .int (x2 + x6)), (0, .ref (ad 0)), (1, .int x1), (2, .int x2), (3, .int x3), (4, .int x4), (5, .int x5), (6, .int x6)]) hx hb dX11_costBy_71 hl (by decide) rfl (fun ls hl => ?_)
            refine lv_iload hx hb dX11_costBy_73 (lv_at hl 2 rfl) ?_
            refine lv_aload_n hx hb dX11_costBy_75 rfl (lv_at hl 3 rfl) ?_
            refine z_getc hx hb hts zin_X11 hown hK hw zF1_0_26 (hts _ zw_864) dX11_costBy_76 ?_
            refine lv_iload_n hx hb dX11_costBy_79 rfl (lv_at hl 4 rfl) ?_
            refine lv_iconst (v := 1) hx hb dX11_costBy_80 (by decide) ?_
            refine lv_iadd hx hb dX11_costBy_81 ?_
            refine lv_iload hx hb dX11_costBy_82 (lv_at hl 1 rfl) ?_
            refine lv_iload hx hb dX11_costBy_84 (lv_at hl 0 rfl) ?_
            refine lv_iload hx hb dX11_costBy_86 (lv_at hl 8 rfl) ?_
            refine z_cSi (As := [.int (x1 + (1 : Int32)), .int (fX11_less x2), .int (fX11_more x3), .int x5]) (rest := [.ref (ad 17), .int (x2 + x6)]) ⟨hx, hb, hml, hown, hts⟩ hK hw hA (kX11_spot l D g ad σ (x1 + (1 : Int32)) (fX11_less x2) (fX11_more x3) x5 _ rfl) (zcwS 4 hts zgoodIn zw_1139 zw_1140 zw_64 zw_1141 rfl rfl hX11_spot ⟨Nat.le_of_ble_eq_true rfl, Nat.le_of_ble_eq_true rfl⟩) rfl hl.1 rfl (Nat.le_of_ble_eq_true rfl) dX11_costBy_88 ⟨Nat.zero_le _, Nat.zero_le _⟩ (fun H locs hw => ?_)
            obtain ⟨v65, e66, h⟩ := zbind h
            refine z_iald hx hb hK hw e66 dX11_costBy_91 ?_
            refine lv_iadd hx hb dX11_costBy_92 ?_
            obtain rfl := Option.some.inj h
            exact hret _ _ _ _ hw rfl dX11_costBy_93
        · rw [if_pos t61] at h
          refine lv_iload_n hx hb dX11_costBy_41 rfl (lv_at hl 3 rfl) ?_
          refine z_cSi (As := [.int x2]) (rest := []) ⟨hx, hb, hml, hown, hts⟩ hK hw hA (kX11_more l D g ad σ x2 _ rfl) (zcwS 1 hts zgoodIn zw_1146 zw_1147 zw_64 zw_1148 rfl rfl hX11_more ⟨Nat.le_of_ble_eq_true rfl, Nat.le_of_ble_eq_true rfl⟩) rfl hl.1 rfl (Nat.le_of_ble_eq_true rfl) dX11_costBy_42 ⟨Nat.zero_le _, Nat.zero_le _⟩ (fun H locs hw => ?_)
          refine lv_goto (tgt := 52) hx hb dX11_costBy_45 (by decide) ?_
          refine lv_istore (lv' := [(8, .int (fX11_more x2)), (7, .int (x2 + x6)), (0, .ref (ad 0)), (1, .int x1), (2, .int x2), (3, .int x3), (4, .int x4), (5, .int x5), (6, .int x6)]) hx hb dX11_costBy_52 hl (by decide) rfl (fun ls hl => ?_)
          refine lv_iload hx hb dX11_costBy_54 (lv_at hl 7 rfl) ?_
          refine lv_iconst (v := 1) hx hb dX11_costBy_56 (by decide) ?_
          refine lv_icmp_ne (tgt := 67) hx hb dX11_costBy_57 (by decide) (fun t67 => ?_) (fun t67 => ?_)
          · rw [if_neg t67] at h
            refine lv_iload_n hx hb dX11_costBy_67 rfl (lv_at hl 5 rfl) ?_
            refine z_cSi (As := [.int x3]) (rest := []) ⟨hx, hb, hml, hown, hts⟩ hK hw hA (kX11_less l D g ad σ x3 _ rfl) (zcwS 1 hts zgoodIn zw_1149 zw_1150 zw_64 zw_1151 rfl rfl hX11_less ⟨Nat.le_of_ble_eq_true rfl, Nat.le_of_ble_eq_true rfl⟩) rfl hl.1 rfl (Nat.le_of_ble_eq_true rfl) dX11_costBy_68 ⟨Nat.zero_le _, Nat.zero_le _⟩ (fun H locs hw => ?_)
            refine lv_istore (lv' := [(9, .int (fX11_less x3)), (8, .int (fX11_more x2)), (7, .int (x2 + x6)), (0, .ref (ad 0)), (1, .int x1), (2, .int x2), (3, .int x3), (4, .int x4), (5, .int x5), (6, .int x6)]) hx hb dX11_costBy_71 hl (by decide) rfl (fun ls hl => ?_)
            refine lv_iload hx hb dX11_costBy_73 (lv_at hl 2 rfl) ?_
            refine lv_aload_n hx hb dX11_costBy_75 rfl (lv_at hl 3 rfl) ?_
            refine z_getc hx hb hts zin_X11 hown hK hw zF1_0_26 (hts _ zw_864) dX11_costBy_76 ?_
            refine lv_iload_n hx hb dX11_costBy_79 rfl (lv_at hl 4 rfl) ?_
            refine lv_iconst (v := 1) hx hb dX11_costBy_80 (by decide) ?_
            refine lv_iadd hx hb dX11_costBy_81 ?_
            refine lv_iload hx hb dX11_costBy_82 (lv_at hl 1 rfl) ?_
            refine lv_iload hx hb dX11_costBy_84 (lv_at hl 0 rfl) ?_
            refine lv_iload hx hb dX11_costBy_86 (lv_at hl 8 rfl) ?_
            refine z_cSi (As := [.int (x1 + (1 : Int32)), .int (fX11_more x2), .int (fX11_less x3), .int x5]) (rest := [.ref (ad 17), .int (x2 + x6)]) ⟨hx, hb, hml, hown, hts⟩ hK hw hA (kX11_spot l D g ad σ (x1 + (1 : Int32)) (fX11_more x2) (fX11_less x3) x5 _ rfl) (zcwS 4 hts zgoodIn zw_1139 zw_1140 zw_64 zw_1141 rfl rfl hX11_spot ⟨Nat.le_of_ble_eq_true rfl, Nat.le_of_ble_eq_true rfl⟩) rfl hl.1 rfl (Nat.le_of_ble_eq_true rfl) dX11_costBy_88 ⟨Nat.zero_le _, Nat.zero_le _⟩ (fun H locs hw => ?_)
            obtain ⟨v68, e69, h⟩ := zbind h
            refine z_iald hx hb hK hw e69 dX11_costBy_91 ?_
            refine lv_iadd hx hb dX11_costBy_92 ?_
            obtain rfl := Option.some.inj h
            exact hret _ _ _ _ hw rfl dX11_costBy_93
          · rw [if_pos t67] at h
            refine lv_iload_n hx hb dX11_costBy_60 rfl (lv_at hl 5 rfl) ?_
            refine z_cSi (As := [.int x3]) (rest := []) ⟨hx, hb, hml, hown, hts⟩ hK hw hA (kX11_more l D g ad σ x3 _ rfl) (zcwS 1 hts zgoodIn zw_1146 zw_1147 zw_64 zw_1148 rfl rfl hX11_more ⟨Nat.le_of_ble_eq_true rfl, Nat.le_of_ble_eq_true rfl⟩) rfl hl.1 rfl (Nat.le_of_ble_eq_true rfl) dX11_costBy_61 ⟨Nat.zero_le _, Nat.zero_le _⟩ (fun H locs hw => ?_)
            refine lv_goto (tgt := 71) hx hb dX11_costBy_64 (by decide) ?_
            refine lv_istore (lv' := [(9, .int (fX11_more x3)), (8, .int (fX11_more x2)), (7, .int (x2 + x6)), (0, .ref (ad 0)), (1, .int x1), (2, .int x2), (3, .int x3), (4, .int x4), (5, .int x5), (6, .int x6)]) hx hb dX11_costBy_71 hl (by decide) rfl (fun ls hl => ?_)
            refine lv_iload hx hb dX11_costBy_73 (lv_at hl 2 rfl) ?_
            refine lv_aload_n hx hb dX11_costBy_75 rfl (lv_at hl 3 rfl) ?_
            refine z_getc hx hb hts zin_X11 hown hK hw zF1_0_26 (hts _ zw_864) dX11_costBy_76 ?_
            refine lv_iload_n hx hb dX11_costBy_79 rfl (lv_at hl 4 rfl) ?_
            refine lv_iconst (v := 1) hx hb dX11_costBy_80 (by decide) ?_
            refine lv_iadd hx hb dX11_costBy_81 ?_
            refine lv_iload hx hb dX11_costBy_82 (lv_at hl 1 rfl) ?_
            refine lv_iload hx hb dX11_costBy_84 (lv_at hl 0 rfl) ?_
            refine lv_iload hx hb dX11_costBy_86 (lv_at hl 8 rfl) ?_
            refine z_cSi (As := [.int (x1 + (1 : Int32)), .int (fX11_more x2), .int (fX11_more x3), .int x5]) (rest := [.ref (ad 17), .int (x2 + x6)]) ⟨hx, hb, hml, hown, hts⟩ hK hw hA (kX11_spot l D g ad σ (x1 + (1 : Int32)) (fX11_more x2) (fX11_more x3) x5 _ rfl) (zcwS 4 hts zgoodIn zw_1139 zw_1140 zw_64 zw_1141 rfl rfl hX11_spot ⟨Nat.le_of_ble_eq_true rfl, Nat.le_of_ble_eq_true rfl⟩) rfl hl.1 rfl (Nat.le_of_ble_eq_true rfl) dX11_costBy_88 ⟨Nat.zero_le _, Nat.zero_le _⟩ (fun H locs hw => ?_)
            obtain ⟨v70, e71, h⟩ := zbind h
            refine z_iald hx hb hK hw e71 dX11_costBy_91 ?_
            refine lv_iadd hx hb dX11_costBy_92 ?_
            obtain rfl := Option.some.inj h
            exact hret _ _ _ _ hw rfl dX11_costBy_93
