/-! walks: X5_takeDigit, X5_takesWord, X5_takesTable, X5_readsTongues, X5_readsWitness, X6_has, J7_fill_53178, X6_renew, X6_drop, X6_write, X6_isOtherSort, X6_faultOfCell, X6_areThere, X6_faultOfCells, X6_faultOfCopy, X7_stateOf, X7_firstOf, X7_lastOf, X7_secondOf, X7_workFirst -/
theorem hX5_takeDigit : yX5_takeDigit.cls = RX5 ∧ yX5_takeDigit.cls ≠ "java/lang/invoke/MethodHandle" ∧ yX5_takeDigit.cls ≠ "java/lang/invoke/VarHandle" ∧ (parseMethodDescriptor yX5_takeDigit.desc).map (fun d => d.parameters.length) = some 2 := by decide +kernel
set_option maxHeartbeats 4000000 in
set_option maxRecDepth 100000 in
theorem kX5_takeDigit (l : Launch) (D : va_G) (g : zG) (ad : Nat → Nat) (σ : zSt) (x1 : Int32) (x2 : Int32) (o : Int32 × zSt) (h : fX5_takeDigit σ x1 x2 = some o) : zMi l D g 0 ad yX5_takeDigit (Cond.code yX5_takeDigit cX5_takeDigit 3 (some .int) :: zws) (zRm 0) [.ref (ad 2), .int x1, .int x2] σ o.1 o.2 := by
  refine z_enter_i (by decide) (Nat.le_of_ble_eq_true rfl) ?_
  intro p e s m below meth c A ls Q C hw hl hret
  obtain ⟨hx, hb, hml, hown, hts, hK, hA⟩ := id C
  have hown : s.vm.findClass RX5 = some m.cls := hown
  have C : zCx p c cX5_takeDigit s _ RX5 m 3 A s.heap D g := C
  have hl : lv_has ls 3 [(0, .ref (ad 2)), (1, .int x1), (2, .int x2)] := hl
  unfold fX5_takeDigit at h
  refine lv_aload_n hx hb dX5_takeDigit_0 rfl (lv_at hl 0 rfl) ?_
  refine z_geti hx hb hts zin_X5 hown hK hw zF0_2_5 (hts _ zw_113) dX5_takeDigit_1 ?_
  refine lv_aload_n hx hb dX5_takeDigit_4 rfl (lv_at hl 0 rfl) ?_
  refine z_geti hx hb hts zin_X5 hown hK hw zF0_2_6 (hts _ zw_114) dX5_takeDigit_5 ?_
  refine lv_icmp_ge (tgt := 43) hx hb dX5_takeDigit_8 (by decide) (fun t1 => ?_) (fun t1 => ?_)
  · rw [if_pos t1] at h
    refine lv_iconst (v := (-1)) hx hb dX5_takeDigit_43 (by decide) ?_
    obtain rfl := Option.some.inj h
    exact hret _ _ _ _ hw rfl dX5_takeDigit_44
  · rw [if_neg t1] at h
    refine lv_aload_n hx hb dX5_takeDigit_11 rfl (lv_at hl 0 rfl) ?_
    refine z_getr hx hb hts zin_X5 hown hK hw zF0_2_3 (hts _ zw_111) dX5_takeDigit_12 ?_
    refine lv_aload_n hx hb dX5_takeDigit_15 rfl (lv_at hl 0 rfl) ?_
    refine z_geti hx hb hts zin_X5 hown hK hw zF0_2_5 (hts _ zw_113) dX5_takeDigit_16 ?_
    obtain ⟨v2, e3, h⟩ := zbind h
    refine z_iald hx hb hK hw e3 dX5_takeDigit_19 ?_
    refine lv_bipush (v := 48) hx hb dX5_takeDigit_20 (by decide) ?_
    refine lv_iload_n hx hb dX5_takeDigit_22 rfl (lv_at hl 1 rfl) ?_
    refine lv_iadd hx hb dX5_takeDigit_23 ?_
    refine lv_icmp_lt (tgt := 43) hx hb dX5_takeDigit_24 (by decide) (fun t4 => ?_) (fun t4 => ?_)
    · rw [if_pos t4] at h
      refine lv_iconst (v := (-1)) hx hb dX5_takeDigit_43 (by decide) ?_
      obtain rfl := Option.some.inj h
      exact hret _ _ _ _ hw rfl dX5_takeDigit_44
    · rw [if_neg t4] at h
      refine lv_aload_n hx hb dX5_takeDigit_27 rfl (lv_at hl 0 rfl) ?_
      refine z_getr hx hb hts zin_X5 hown hK hw zF0_2_3 (hts _ zw_111) dX5_takeDigit_28 ?_
      refine lv_aload_n hx hb dX5_takeDigit_31 rfl (lv_at hl 0 rfl) ?_
      refine z_geti hx hb hts zin_X5 hown hK hw zF0_2_5 (hts _ zw_113) dX5_takeDigit_32 ?_
      obtain ⟨v5, e6, h⟩ := zbind h
      refine z_iald hx hb hK hw e6 dX5_takeDigit_35 ?_
      refine lv_bipush (v := 48) hx hb dX5_takeDigit_36 (by decide) ?_
      refine lv_iload_n hx hb dX5_takeDigit_38 rfl (lv_at hl 2 rfl) ?_
      refine lv_iadd hx hb dX5_takeDigit_39 ?_
      refine lv_icmp_le (tgt := 45) hx hb dX5_takeDigit_40 (by decide) (fun t7 => ?_) (fun t7 => ?_)
      · rw [if_pos t7] at h
        refine lv_aload_n hx hb dX5_takeDigit_45 rfl (lv_at hl 0 rfl) ?_
        refine lv_dup hx hb dX5_takeDigit_46 rfl ?_
        refine z_geti hx hb hts zin_X5 hown hK hw zF0_2_5 (hts _ zw_113) dX5_takeDigit_47 ?_
        refine lv_iconst (v := 1) hx hb dX5_takeDigit_50 (by decide) ?_
        refine lv_iadd hx hb dX5_takeDigit_51 ?_
        refine z_puti hx hb hts zin_X5 tyX5_ok nmX5 hown hK hw zF0_2_5 (hts _ zw_113) zY0_2_5 dX5_takeDigit_52 (fun H locs hw => ?_)
        refine lv_aload_n hx hb dX5_takeDigit_55 rfl (lv_at hl 0 rfl) ?_
        refine z_getr hx hb hts zin_X5 hown hK hw zF0_2_3 (hts _ zw_111) dX5_takeDigit_56 ?_
        refine lv_aload_n hx hb dX5_takeDigit_59 rfl (lv_at hl 0 rfl) ?_
        refine z_geti hx hb hts zin_X5 hown hK hw zF0_2_5 (hts _ zw_113) dX5_takeDigit_60 ?_
        refine lv_iconst (v := 1) hx hb dX5_takeDigit_63 (by decide) ?_
        refine lv_isub hx hb dX5_takeDigit_64 ?_
        obtain ⟨v8, e9, h⟩ := zbind h
        refine z_iald hx hb hK hw e9 dX5_takeDigit_65 ?_
        refine lv_bipush (v := 48) hx hb dX5_takeDigit_66 (by decide) ?_
        refine lv_isub hx hb dX5_takeDigit_68 ?_
        obtain rfl := Option.some.inj h
        exact hret _ _ _ _ hw rfl dX5_takeDigit_69
      · rw [if_neg t7] at h
        refine lv_iconst (v := (-1)) hx hb dX5_takeDigit_43 (by decide) ?_
        obtain rfl := Option.some.inj h
        exact hret _ _ _ _ hw rfl dX5_takeDigit_44
set_option maxHeartbeats 4000000 in
set_option maxRecDepth 100000 in
theorem wX5_takesWord_16 {p : Program} {l : Launch} {e : Env} {s : State} {m : MethodId} {args : Array Value} {below : List Frame} {meth : Method} {c : Code} {A : Nat → Prop} {H0 : Heap} {Q : State → Prop} {D : va_G} {g : zG} {ad : Nat → Nat} (C : zCx p c cX5_takesWord s args RX5 m 7 A H0 D g) (x1 : Nat) (x2 : Int32) (n : Nat) (a : (Int32 × Int32 × zSt)) (b : ((Int32 × Int32 × zSt) ⊕ (Int32 × zSt))) (h : zLp (fun a => bX5_takesWord_16 x1 x2 a.1 a.2.1 a.2.2) n a = some b) (hk1 : ∀ a, b = .inl a → ∀ (H : Heap) (locs : List Loc) (ls : Array Slot), zH D g 0 ad A H0 a.2.2 H locs → lv_has ls 7 [(0, .ref (ad 2)), (1, .ref (ad x1)), (2, .int x2), (3, .int a.1), (4, .int a.2.1)] → W p l e (zRm 1) s m args below meth c H locs 0 0 Q (F0 m 90 ls [])) (hk2 : ∀ r, b = .inr r → ∀ (H : Heap) (locs : List Loc) (pc : Nat) (ls : Array Slot), zH D g 0 ad A H0 r.2 H locs → narrow .boolean (.int r.1) = .int r.1 → decode cX5_takesWord pc = .ok (.ireturn, 1) → W p l e (zRm 1) s m args below meth c H locs 0 0 Q (F0 m pc ls [.int r.1])) : ∀ (H : Heap) (locs : List Loc) (ls : Array Slot), zH D g 0 ad A H0 a.2.2 H locs → lv_has ls 7 [(0, .ref (ad 2)), (1, .ref (ad x1)), (2, .int x2), (3, .int a.1), (4, .int a.2.1)] → W p l e (zRm 1) s m args below meth c H locs 0 0 Q (F0 m 16 ls []) := by
  obtain ⟨hx, hb, hml, hown, hts, hK, hA⟩ := id C
  refine zLp_walk (P := fun (a : (Int32 × Int32 × zSt)) => ∀ (H : Heap) (locs : List Loc) (ls : Array Slot), zH D g 0 ad A H0 a.2.2 H locs → lv_has ls 7 [(0, .ref (ad 2)), (1, .ref (ad x1)), (2, .int x2), (3, .int a.1), (4, .int a.2.1)] → W p l e (zRm 1) s m args below meth c H locs 0 0 Q (F0 m 16 ls [])) (E := fun (b' : ((Int32 × Int32 × zSt) ⊕ (Int32 × zSt))) => b' = b) ?_ n a b h rfl
  intro a r h hn he H locs ls hw hl
  obtain ⟨x3, x4, σ⟩ := a
  have h : bX5_takesWord_16 x1 x2 x3 x4 σ = some r := h
  have hl : lv_has ls 7 [(0, .ref (ad 2)), (1, .ref (ad x1)), (2, .int x2), (3, .int x3), (4, .int x4)] := hl
  have hw : zH D g 0 ad A H0 σ H locs := hw
  unfold bX5_takesWord_16 at h
  refine lv_iload hx hb dX5_takesWord_16 (lv_at hl 4 rfl) ?_
  refine lv_iload_n hx hb dX5_takesWord_18 rfl (lv_at hl 2 rfl) ?_
  refine lv_icmp_ge (tgt := 90) hx hb dX5_takesWord_19 (by decide) (fun t1 => ?_) (fun t1 => ?_)
  · rw [if_pos t1] at h
    obtain rfl := Option.some.inj h
    obtain rfl := he _ rfl
    exact hk1 _ rfl _ _ _ hw (lv_sub hl [0, 1, 2, 3, 4] rfl)
  · rw [if_neg t1] at h
    refine lv_iload_n hx hb dX5_takesWord_22 rfl (lv_at hl 3 rfl) ?_
    refine lv_if_ne (tgt := 38) hx hb dX5_takesWord_23 (by decide) (fun t2 => ?_) (fun t2 => ?_)
    · rw [if_neg t2] at h
      refine lv_iconst (v := 0) hx hb dX5_takesWord_38 (by decide) ?_
      refine lv_istore (lv' := [(5, .int (0 : Int32)), (0, .ref (ad 2)), (1, .ref (ad x1)), (2, .int x2), (3, .int x3), (4, .int x4)]) hx hb dX5_takesWord_39 hl (by decide) rfl (fun ls hl => ?_)
      refine lv_aload_n hx hb dX5_takesWord_41 rfl (lv_at hl 1 rfl) ?_
      refine lv_iload hx hb dX5_takesWord_42 (lv_at hl 0 rfl) ?_
      refine lv_if_eq (tgt := 51) hx hb dX5_takesWord_44 (by decide) (fun t3 => ?_) (fun t3 => ?_)
      · refine lv_iconst (v := 0) hx hb dX5_takesWord_51 (by decide) ?_
        refine lv_bipush (v := 9) hx hb dX5_takesWord_52 (by decide) ?_
        refine lv_bipush (v := 12) hx hb dX5_takesWord_54 (by decide) ?_
        refine lv_iload_n hx hb dX5_takesWord_56 rfl (lv_at hl 4 rfl) ?_
        refine lv_isub hx hb dX5_takesWord_57 ?_
        refine va_mmin hx hb (hml.trans hl.1.symm) hown (hts _ zw_385) (hts _ zw_386) (hts _ zw_65) (hts _ zw_387) (Nat.le_of_ble_eq_true rfl) (Nat.le_of_ble_eq_true rfl) (Nat.zero_le _) (Nat.zero_le _) dX5_takesWord_58 ?_
        obtain ⟨r4, e5, h⟩ := zbind h
        refine z_cVi (As := [.int (0 : Int32), .int (if (12 : Int32) - x3 < (9 : Int32) then (12 : Int32) - x3 else (9 : Int32))]) (rest := []) ⟨hx, hb, hml, hown, hts⟩ hK hw hA (kX5_takeDigit l D g ad σ (0 : Int32) (if (12 : Int32) - x3 < (9 : Int32) then (12 : Int32) - x3 else (9 : Int32)) r4 e5) (zcwV 2 hts zgoodIn zw_373 zw_375 zw_4 zw_55 zw_376 rfl rfl hX5_takeDigit ⟨Nat.le_of_ble_eq_true rfl, Nat.le_of_ble_eq_true rfl⟩) zO0_2 rfl hl.1 rfl (Nat.le_of_ble_eq_true rfl) dX5_takesWord_61 ⟨Nat.zero_le _, Nat.zero_le _⟩ (fun H locs hw => ?_)
        refine lv_istore (lv' := [(6, .int r4.1), (5, .int (0 : Int32)), (0, .ref (ad 2)), (1, .ref (ad x1)), (2, .int x2), (3, .int x3), (4, .int x4)]) hx hb dX5_takesWord_64 hl (by decide) rfl (fun ls hl => ?_)
        refine lv_iload hx hb dX5_takesWord_66 (lv_at hl 0 rfl) ?_
        refine lv_if_ge (tgt := 73) hx hb dX5_takesWord_68 (by decide) (fun t6 => ?_) (fun t6 => ?_)
        · rw [if_pos t6] at h
          refine lv_aload_n hx hb dX5_takesWord_73 rfl (lv_at hl 3 rfl) ?_
          refine lv_iload hx hb dX5_takesWord_74 (lv_at hl 6 rfl) ?_
          refine lv_iload hx hb dX5_takesWord_76 (lv_at hl 0 rfl) ?_
          obtain ⟨s7, e8, h⟩ := zbind h
          refine z_iast hx hb hK hw e8 dX5_takesWord_78 (fun H locs hw => ?_)
          refine lv_iload_n hx hb dX5_takesWord_79 rfl (lv_at hl 5 rfl) ?_
          refine lv_iload hx hb dX5_takesWord_80 (lv_at hl 0 rfl) ?_
          refine lv_iadd hx hb dX5_takesWord_82 ?_
          refine lv_istore_n (lv' := [(3, .int (x3 + r4.1)), (6, .int r4.1), (5, .int (0 : Int32)), (0, .ref (ad 2)), (1, .ref (ad x1)), (2, .int x2), (4, .int x4)]) hx hb dX5_takesWord_83 rfl hl (by decide) rfl (fun ls hl => ?_)
          refine lv_iinc (v := x4 + 1) (lv' := [(4, .int (x4 + 1)), (3, .int (x3 + r4.1)), (6, .int r4.1), (5, .int (0 : Int32)), (0, .ref (ad 2)), (1, .ref (ad x1)), (2, .int x2)]) hx hb dX5_takesWord_84 hl (k := 6) rfl rfl (by decide) rfl (fun ls hl => ?_)
          refine lv_goto (tgt := 16) hx hb dX5_takesWord_87 (by decide) ?_
          obtain rfl := Option.some.inj h
          exact hn _ rfl _ _ _ hw (lv_sub hl [4, 5, 6, 1, 0] rfl)
        · rw [if_neg t6] at h
          refine lv_iconst (v := 0) hx hb dX5_takesWord_71 (by decide) ?_
          obtain rfl := Option.some.inj h
          obtain rfl := he _ rfl
          exact hk2 _ rfl _ _ _ _ hw zb0 dX5_takesWord_72
      · exact absurd t3 (by decide)
    · rw [if_pos t2] at h
      refine lv_iload hx hb dX5_takesWord_26 (lv_at hl 4 rfl) ?_
      refine lv_iload_n hx hb dX5_takesWord_28 rfl (lv_at hl 2 rfl) ?_
      refine lv_iconst (v := 1) hx hb dX5_takesWord_29 (by decide) ?_
      refine lv_isub hx hb dX5_takesWord_30 ?_
      refine lv_icmp_ne (tgt := 38) hx hb dX5_takesWord_31 (by decide) (fun t9 => ?_) (fun t9 => ?_)
      · rw [if_neg t9] at h
        refine lv_iconst (v := 0) hx hb dX5_takesWord_38 (by decide) ?_
        refine lv_istore (lv' := [(5, .int (0 : Int32)), (0, .ref (ad 2)), (1, .ref (ad x1)), (2, .int x2), (3, .int x3), (4, .int x4)]) hx hb dX5_takesWord_39 hl (by decide) rfl (fun ls hl => ?_)
        refine lv_aload_n hx hb dX5_takesWord_41 rfl (lv_at hl 1 rfl) ?_
        refine lv_iload hx hb dX5_takesWord_42 (lv_at hl 0 rfl) ?_
        refine lv_if_eq (tgt := 51) hx hb dX5_takesWord_44 (by decide) (fun t10 => ?_) (fun t10 => ?_)
        · refine lv_iconst (v := 0) hx hb dX5_takesWord_51 (by decide) ?_
          refine lv_bipush (v := 9) hx hb dX5_takesWord_52 (by decide) ?_
          refine lv_bipush (v := 12) hx hb dX5_takesWord_54 (by decide) ?_
          refine lv_iload_n hx hb dX5_takesWord_56 rfl (lv_at hl 4 rfl) ?_
          refine lv_isub hx hb dX5_takesWord_57 ?_
          refine va_mmin hx hb (hml.trans hl.1.symm) hown (hts _ zw_385) (hts _ zw_386) (hts _ zw_65) (hts _ zw_387) (Nat.le_of_ble_eq_true rfl) (Nat.le_of_ble_eq_true rfl) (Nat.zero_le _) (Nat.zero_le _) dX5_takesWord_58 ?_
          obtain ⟨r11, e12, h⟩ := zbind h
          refine z_cVi (As := [.int (0 : Int32), .int (if (12 : Int32) - x3 < (9 : Int32) then (12 : Int32) - x3 else (9 : Int32))]) (rest := []) ⟨hx, hb, hml, hown, hts⟩ hK hw hA (kX5_takeDigit l D g ad σ (0 : Int32) (if (12 : Int32) - x3 < (9 : Int32) then (12 : Int32) - x3 else (9 : Int32)) r11 e12) (zcwV 2 hts zgoodIn zw_373 zw_375 zw_4 zw_55 zw_376 rfl rfl hX5_takeDigit ⟨Nat.le_of_ble_eq_true rfl, Nat.le_of_ble_eq_true rfl⟩) zO0_2 rfl hl.1 rfl (Nat.le_of_ble_eq_true rfl) dX5_takesWord_61 ⟨Nat.zero_le _, Nat.zero_le _⟩ (fun H locs hw => ?_)
          refine lv_istore (lv' := [(6, .int r11.1), (5, .int (0 : Int32)), (0, .ref (ad 2)), (1, .ref (ad x1)), (2, .int x2), (3, .int x3), (4, .int x4)]) hx hb dX5_takesWord_64 hl (by decide) rfl (fun ls hl => ?_)
          refine lv_iload hx hb dX5_takesWord_66 (lv_at hl 0 rfl) ?_
          refine lv_if_ge (tgt := 73) hx hb dX5_takesWord_68 (by decide) (fun t13 => ?_) (fun t13 => ?_)
          · rw [if_pos t13] at h
            refine lv_aload_n hx hb dX5_takesWord_73 rfl (lv_at hl 3 rfl) ?_
            refine lv_iload hx hb dX5_takesWord_74 (lv_at hl 6 rfl) ?_
            refine lv_iload hx hb dX5_takesWord_76 (lv_at hl 0 rfl) ?_
            obtain ⟨s14, e15, h⟩ := zbind h
            refine z_iast hx hb hK hw e15 dX5_takesWord_78 (fun H locs hw => ?_)
            refine lv_iload_n hx hb dX5_takesWord_79 rfl (lv_at hl 5 rfl) ?_
            refine lv_iload hx hb dX5_takesWord_80 (lv_at hl 0 rfl) ?_
            refine lv_iadd hx hb dX5_takesWord_82 ?_
            refine lv_istore_n (lv' := [(3, .int (x3 + r11.1)), (6, .int r11.1), (5, .int (0 : Int32)), (0, .ref (ad 2)), (1, .ref (ad x1)), (2, .int x2), (4, .int x4)]) hx hb dX5_takesWord_83 rfl hl (by decide) rfl (fun ls hl => ?_)
            refine lv_iinc (v := x4 + 1) (lv' := [(4, .int (x4 + 1)), (3, .int (x3 + r11.1)), (6, .int r11.1), (5, .int (0 : Int32)), (0, .ref (ad 2)), (1, .ref (ad x1)), (2, .int x2)]) hx hb dX5_takesWord_84 hl (k := 6) rfl rfl (by decide) rfl (fun ls hl => ?_)
            refine lv_goto (tgt := 16) hx hb dX5_takesWord_87 (by decide) ?_
            obtain rfl := Option.some.inj h
            exact hn _ rfl _ _ _ hw (lv_sub hl [4, 5, 6, 1, 0] rfl)
          · rw [if_neg t13] at h
            refine lv_iconst (v := 0) hx hb dX5_takesWord_71 (by decide) ?_
            obtain rfl := Option.some.inj h
            obtain rfl := he _ rfl
            exact hk2 _ rfl _ _ _ _ hw zb0 dX5_takesWord_72
        · exact absurd t10 (by decide)
      · rw [if_pos t9] at h
        refine lv_iconst (v := 1) hx hb dX5_takesWord_34 (by decide) ?_
        refine lv_goto (tgt := 39) hx hb dX5_takesWord_35 (by decide) ?_
        refine lv_istore (lv' := [(5, .int (1 : Int32)), (0, .ref (ad 2)), (1, .ref (ad x1)), (2, .int x2), (3, .int x3), (4, .int x4)]) hx hb dX5_takesWord_39 hl (by decide) rfl (fun ls hl => ?_)
        refine lv_aload_n hx hb dX5_takesWord_41 rfl (lv_at hl 1 rfl) ?_
        refine lv_iload hx hb dX5_takesWord_42 (lv_at hl 0 rfl) ?_
        refine lv_if_eq (tgt := 51) hx hb dX5_takesWord_44 (by decide) (fun t16 => ?_) (fun t16 => ?_)
        · exact absurd t16 (by decide)
        · refine lv_iconst (v := 1) hx hb dX5_takesWord_47 (by decide) ?_
          refine lv_goto (tgt := 52) hx hb dX5_takesWord_48 (by decide) ?_
          refine lv_bipush (v := 9) hx hb dX5_takesWord_52 (by decide) ?_
          refine lv_bipush (v := 12) hx hb dX5_takesWord_54 (by decide) ?_
          refine lv_iload_n hx hb dX5_takesWord_56 rfl (lv_at hl 4 rfl) ?_
          refine lv_isub hx hb dX5_takesWord_57 ?_
          refine va_mmin hx hb (hml.trans hl.1.symm) hown (hts _ zw_385) (hts _ zw_386) (hts _ zw_65) (hts _ zw_387) (Nat.le_of_ble_eq_true rfl) (Nat.le_of_ble_eq_true rfl) (Nat.zero_le _) (Nat.zero_le _) dX5_takesWord_58 ?_
          obtain ⟨r17, e18, h⟩ := zbind h
          refine z_cVi (As := [.int (1 : Int32), .int (if (12 : Int32) - x3 < (9 : Int32) then (12 : Int32) - x3 else (9 : Int32))]) (rest := []) ⟨hx, hb, hml, hown, hts⟩ hK hw hA (kX5_takeDigit l D g ad σ (1 : Int32) (if (12 : Int32) - x3 < (9 : Int32) then (12 : Int32) - x3 else (9 : Int32)) r17 e18) (zcwV 2 hts zgoodIn zw_373 zw_375 zw_4 zw_55 zw_376 rfl rfl hX5_takeDigit ⟨Nat.le_of_ble_eq_true rfl, Nat.le_of_ble_eq_true rfl⟩) zO0_2 rfl hl.1 rfl (Nat.le_of_ble_eq_true rfl) dX5_takesWord_61 ⟨Nat.zero_le _, Nat.zero_le _⟩ (fun H locs hw => ?_)
          refine lv_istore (lv' := [(6, .int r17.1), (5, .int (1 : Int32)), (0, .ref (ad 2)), (1, .ref (ad x1)), (2, .int x2), (3, .int x3), (4, .int x4)]) hx hb dX5_takesWord_64 hl (by decide) rfl (fun ls hl => ?_)
          refine lv_iload hx hb dX5_takesWord_66 (lv_at hl 0 rfl) ?_
          refine lv_if_ge (tgt := 73) hx hb dX5_takesWord_68 (by decide) (fun t19 => ?_) (fun t19 => ?_)
          · rw [if_pos t19] at h
            refine lv_aload_n hx hb dX5_takesWord_73 rfl (lv_at hl 3 rfl) ?_
            refine lv_iload hx hb dX5_takesWord_74 (lv_at hl 6 rfl) ?_
            refine lv_iload hx hb dX5_takesWord_76 (lv_at hl 0 rfl) ?_
            obtain ⟨s20, e21, h⟩ := zbind h
            refine z_iast hx hb hK hw e21 dX5_takesWord_78 (fun H locs hw => ?_)
            refine lv_iload_n hx hb dX5_takesWord_79 rfl (lv_at hl 5 rfl) ?_
            refine lv_iload hx hb dX5_takesWord_80 (lv_at hl 0 rfl) ?_
            refine lv_iadd hx hb dX5_takesWord_82 ?_
            refine lv_istore_n (lv' := [(3, .int (x3 + r17.1)), (6, .int r17.1), (5, .int (1 : Int32)), (0, .ref (ad 2)), (1, .ref (ad x1)), (2, .int x2), (4, .int x4)]) hx hb dX5_takesWord_83 rfl hl (by decide) rfl (fun ls hl => ?_)
            refine lv_iinc (v := x4 + 1) (lv' := [(4, .int (x4 + 1)), (3, .int (x3 + r17.1)), (6, .int r17.1), (5, .int (1 : Int32)), (0, .ref (ad 2)), (1, .ref (ad x1)), (2, .int x2)]) hx hb dX5_takesWord_84 hl (k := 6) rfl rfl (by decide) rfl (fun ls hl => ?_)
            refine lv_goto (tgt := 16) hx hb dX5_takesWord_87 (by decide) ?_
            obtain rfl := Option.some.inj h
            exact hn _ rfl _ _ _ hw (lv_sub hl [4, 5, 6, 1, 0] rfl)
          · rw [if_neg t19] at h
            refine lv_iconst (v := 0) hx hb dX5_takesWord_71 (by decide) ?_
            obtain rfl := Option.some.inj h
            obtain rfl := he _ rfl
            exact hk2 _ rfl _ _ _ _ hw zb0 dX5_takesWord_72
theorem hX5_takesWord : yX5_takesWord.cls = RX5 ∧ yX5_takesWord.cls ≠ "java/lang/invoke/MethodHandle" ∧ yX5_takesWord.cls ≠ "java/lang/invoke/VarHandle" ∧ (parseMethodDescriptor yX5_takesWord.desc).map (fun d => d.parameters.length) = some 2 := by decide +kernel
set_option maxHeartbeats 4000000 in
set_option maxRecDepth 100000 in
theorem kX5_takesWord (l : Launch) (D : va_G) (g : zG) (ad : Nat → Nat) (σ : zSt) (x1 : Nat) (x2 : Int32) (o : Int32 × zSt) (h : fX5_takesWord σ x1 x2 = some o) : zMi l D g 0 ad yX5_takesWord (Cond.code yX5_takesWord cX5_takesWord 7 (some .boolean) :: zws) (zRm 1) [.ref (ad 2), .ref (ad x1), .int x2] σ o.1 o.2 := by
  refine z_enter_i (by decide) (Nat.le_of_ble_eq_true rfl) ?_
  intro p e s m below meth c A ls Q C hw hl hret
  obtain ⟨hx, hb, hml, hown, hts, hK, hA⟩ := id C
  have hown : s.vm.findClass RX5 = some m.cls := hown
  have C : zCx p c cX5_takesWord s _ RX5 m 7 A s.heap D g := C
  have hl : lv_has ls 7 [(0, .ref (ad 2)), (1, .ref (ad x1)), (2, .int x2)] := hl
  unfold fX5_takesWord at h
  refine lv_aload_n hx hb dX5_takesWord_0 rfl (lv_at hl 0 rfl) ?_
  refine lv_bipush (v := 59) hx hb dX5_takesWord_1 (by decide) ?_
  obtain ⟨r1, e2, h⟩ := zbind h
  refine z_cVi (As := [.int (59 : Int32)]) (rest := []) ⟨hx, hb, hml, hown, hts⟩ hK hw hA (kX5_takesSign l D g ad σ (59 : Int32) r1 e2) (zcwV 1 hts zgoodIn zw_369 zw_371 zw_3 zw_55 zw_372 rfl rfl hX5_takesSign ⟨Nat.le_of_ble_eq_true rfl, Nat.le_of_ble_eq_true rfl⟩) zO0_2 rfl hl.1 rfl (Nat.le_of_ble_eq_true rfl) dX5_takesWord_3 ⟨Nat.zero_le _, Nat.zero_le _⟩ (fun H locs hw => ?_)
  refine lv_if_ne (tgt := 11) hx hb dX5_takesWord_6 (by decide) (fun t3 => ?_) (fun t3 => ?_)
  · rw [if_neg t3] at h
    refine lv_iconst (v := 0) hx hb dX5_takesWord_11 (by decide) ?_
    refine lv_istore_n (lv' := [(3, .int (0 : Int32)), (0, .ref (ad 2)), (1, .ref (ad x1)), (2, .int x2)]) hx hb dX5_takesWord_12 rfl hl (by decide) rfl (fun ls hl => ?_)
    refine lv_iconst (v := 0) hx hb dX5_takesWord_13 (by decide) ?_
    refine lv_istore (lv' := [(4, .int (0 : Int32)), (3, .int (0 : Int32)), (0, .ref (ad 2)), (1, .ref (ad x1)), (2, .int x2)]) hx hb dX5_takesWord_14 hl (by decide) rfl (fun ls hl => ?_)
    obtain ⟨b4, e5, h⟩ := zbind h
    refine wX5_takesWord_16 C x1 x2 zFU ((0 : Int32), (0 : Int32), r1.2) b4 e5 (fun a6 hb H locs ls hw hl => ?_) (fun r7 hb H locs pc ls hw hnn hd => ?_) _ _ _ hw (lv_sub hl [2, 3, 4, 1, 0] rfl)
    · subst hb
      rw [zel_l] at h
      have hl : lv_has ls 7 [(0, .ref (ad 2)), (1, .ref (ad x1)), (2, .int x2), (3, .int a6.1), (4, .int a6.2.1)] := hl
      refine lv_iconst (v := 1) hx hb dX5_takesWord_90 (by decide) ?_
      obtain rfl := Option.some.inj h
      exact hret _ _ _ _ hw zb1 dX5_takesWord_91
    · subst hb
      rw [zel_r] at h
      obtain rfl := Option.some.inj h
      exact hret _ _ _ _ hw hnn hd
  · rw [if_pos t3] at h
    refine lv_iconst (v := 0) hx hb dX5_takesWord_9 (by decide) ?_
    obtain rfl := Option.some.inj h
    exact hret _ _ _ _ hw zb0 dX5_takesWord_10
set_option maxHeartbeats 4000000 in
set_option maxRecDepth 100000 in
theorem wX5_takesTable_2 {p : Program} {l : Launch} {e : Env} {s : State} {m : MethodId} {args : Array Value} {below : List Frame} {meth : Method} {c : Code} {A : Nat → Prop} {H0 : Heap} {Q : State → Prop} {D : va_G} {g : zG} {ad : Nat → Nat} (C : zCx p c cX5_takesTable s args RX5 m 4 A H0 D g) (x1 : Int32) (x2 : Int32) (n : Nat) (a : (Int32 × zSt)) (b : ((Int32 × zSt) ⊕ (Int32 × zSt))) (h : zLp (fun a => bX5_takesTable_2 x1 x2 a.1 a.2) n a = some b) (hk1 : ∀ a, b = .inl a → ∀ (H : Heap) (locs : List Loc) (ls : Array Slot), zH D g 0 ad A H0 a.2 H locs → lv_has ls 4 [(0, .ref (ad 2)), (1, .int x1), (2, .int x2), (3, .int a.1)] → W p l e (zRm 2) s m args below meth c H locs 0 0 Q (F0 m 31 ls [])) (hk2 : ∀ r, b = .inr r → ∀ (H : Heap) (locs : List Loc) (pc : Nat) (ls : Array Slot), zH D g 0 ad A H0 r.2 H locs → narrow .boolean (.int r.1) = .int r.1 → decode cX5_takesTable pc = .ok (.ireturn, 1) → W p l e (zRm 2) s m args below meth c H locs 0 0 Q (F0 m pc ls [.int r.1])) : ∀ (H : Heap) (locs : List Loc) (ls : Array Slot), zH D g 0 ad A H0 a.2 H locs → lv_has ls 4 [(0, .ref (ad 2)), (1, .int x1), (2, .int x2), (3, .int a.1)] → W p l e (zRm 2) s m args below meth c H locs 0 0 Q (F0 m 2 ls []) := by
  obtain ⟨hx, hb, hml, hown, hts, hK, hA⟩ := id C
  refine zLp_walk (P := fun (a : (Int32 × zSt)) => ∀ (H : Heap) (locs : List Loc) (ls : Array Slot), zH D g 0 ad A H0 a.2 H locs → lv_has ls 4 [(0, .ref (ad 2)), (1, .int x1), (2, .int x2), (3, .int a.1)] → W p l e (zRm 2) s m args below meth c H locs 0 0 Q (F0 m 2 ls [])) (E := fun (b' : ((Int32 × zSt) ⊕ (Int32 × zSt))) => b' = b) ?_ n a b h rfl
  intro a r h hn he H locs ls hw hl
  obtain ⟨x3, σ⟩ := a
  have h : bX5_takesTable_2 x1 x2 x3 σ = some r := h
  have hl : lv_has ls 4 [(0, .ref (ad 2)), (1, .int x1), (2, .int x2), (3, .int x3)] := hl
  have hw : zH D g 0 ad A H0 σ H locs := hw
  unfold bX5_takesTable_2 at h
  refine lv_iload_n hx hb dX5_takesTable_2 rfl (lv_at hl 3 rfl) ?_
  refine lv_iload_n hx hb dX5_takesTable_3 rfl (lv_at hl 2 rfl) ?_
  refine lv_icmp_ge (tgt := 31) hx hb dX5_takesTable_4 (by decide) (fun t1 => ?_) (fun t1 => ?_)
  · rw [if_pos t1] at h
    obtain rfl := Option.some.inj h
    obtain rfl := he _ rfl
    exact hk1 _ rfl _ _ _ hw (lv_sub hl [0, 1, 2, 3] rfl)
  · rw [if_neg t1] at h
    refine lv_aload_n hx hb dX5_takesTable_7 rfl (lv_at hl 0 rfl) ?_
    refine lv_aload_n hx hb dX5_takesTable_8 rfl (lv_at hl 0 rfl) ?_
    refine z_getc hx hb hts zin_X5 hown hK hw zF0_2_0 (hts _ zw_105) dX5_takesTable_9 ?_
    refine lv_iload_n hx hb dX5_takesTable_12 rfl (lv_at hl 1 rfl) ?_
    refine lv_iload_n hx hb dX5_takesTable_13 rfl (lv_at hl 3 rfl) ?_
    refine lv_iadd hx hb dX5_takesTable_14 ?_
    obtain ⟨q2, e3, h⟩ := zbind h
    refine z_aald hx hb hK hw e3 dX5_takesTable_15 ?_
    refine lv_iload_n hx hb dX5_takesTable_16 rfl (lv_at hl 2 rfl) ?_
    obtain ⟨r4, e5, h⟩ := zbind h
    refine z_cVi (As := [.ref (ad q2), .int x2]) (rest := []) ⟨hx, hb, hml, hown, hts⟩ hK hw hA (kX5_takesWord l D g ad σ q2 x2 r4 e5) (zcwV 2 hts zgoodIn zw_381 zw_383 zw_6 zw_55 zw_384 rfl rfl hX5_takesWord ⟨Nat.le_of_ble_eq_true rfl, Nat.le_of_ble_eq_true rfl⟩) zO0_2 rfl hl.1 rfl (Nat.le_of_ble_eq_true rfl) dX5_takesTable_17 ⟨Nat.zero_le _, Nat.zero_le _⟩ (fun H locs hw => ?_)
    refine lv_if_ne (tgt := 25) hx hb dX5_takesTable_20 (by decide) (fun t6 => ?_) (fun t6 => ?_)
    · rw [if_neg t6] at h
      refine lv_iinc (v := x3 + 1) (lv' := [(3, .int (x3 + 1)), (0, .ref (ad 2)), (1, .int x1), (2, .int x2)]) hx hb dX5_takesTable_25 hl (k := 3) rfl rfl (by decide) rfl (fun ls hl => ?_)
      refine lv_goto (tgt := 2) hx hb dX5_takesTable_28 (by decide) ?_
      obtain rfl := Option.some.inj h
      exact hn _ rfl _ _ _ hw (lv_sub hl [1, 2, 3, 0] rfl)
    · rw [if_pos t6] at h
      refine lv_iconst (v := 0) hx hb dX5_takesTable_23 (by decide) ?_
      obtain rfl := Option.some.inj h
      obtain rfl := he _ rfl
      exact hk2 _ rfl _ _ _ _ hw zb0 dX5_takesTable_24
theorem hX5_takesTable : yX5_takesTable.cls = RX5 ∧ yX5_takesTable.cls ≠ "java/lang/invoke/MethodHandle" ∧ yX5_takesTable.cls ≠ "java/lang/invoke/VarHandle" ∧ (parseMethodDescriptor yX5_takesTable.desc).map (fun d => d.parameters.length) = some 2 := by decide +kernel
set_option maxHeartbeats 4000000 in
set_option maxRecDepth 100000 in
theorem kX5_takesTable (l : Launch) (D : va_G) (g : zG) (ad : Nat → Nat) (σ : zSt) (x1 : Int32) (x2 : Int32) (o : Int32 × zSt) (h : fX5_takesTable σ x1 x2 = some o) : zMi l D g 0 ad yX5_takesTable (Cond.code yX5_takesTable cX5_takesTable 4 (some .boolean) :: zws) (zRm 2) [.ref (ad 2), .int x1, .int x2] σ o.1 o.2 := by
  refine z_enter_i (by decide) (Nat.le_of_ble_eq_true rfl) ?_
  intro p e s m below meth c A ls Q C hw hl hret
  obtain ⟨hx, hb, hml, hown, hts, hK, hA⟩ := id C
  have hown : s.vm.findClass RX5 = some m.cls := hown
  have C : zCx p c cX5_takesTable s _ RX5 m 4 A s.heap D g := C
  have hl : lv_has ls 4 [(0, .ref (ad 2)), (1, .int x1), (2, .int x2)] := hl
  unfold fX5_takesTable at h
  refine lv_iconst (v := 0) hx hb dX5_takesTable_0 (by decide) ?_
  refine lv_istore_n (lv' := [(3, .int (0 : Int32)), (0, .ref (ad 2)), (1, .int x1), (2, .int x2)]) hx hb dX5_takesTable_1 rfl hl (by decide) rfl (fun ls hl => ?_)
  obtain ⟨b1, e2, h⟩ := zbind h
  refine wX5_takesTable_2 C x1 x2 zFU ((0 : Int32), σ) b1 e2 (fun a3 hb H locs ls hw hl => ?_) (fun r4 hb H locs pc ls hw hnn hd => ?_) _ _ _ hw (lv_sub hl [1, 2, 3, 0] rfl)
  · subst hb
    rw [zel_l] at h
    have hl : lv_has ls 4 [(0, .ref (ad 2)), (1, .int x1), (2, .int x2), (3, .int a3.1)] := hl
    refine lv_iconst (v := 1) hx hb dX5_takesTable_31 (by decide) ?_
    obtain rfl := Option.some.inj h
    exact hret _ _ _ _ hw zb1 dX5_takesTable_32
  · subst hb
    rw [zel_r] at h
    obtain rfl := Option.some.inj h
    exact hret _ _ _ _ hw hnn hd
theorem hX5_readsTongues : yX5_readsTongues.cls = RX5 ∧ yX5_readsTongues.cls ≠ "java/lang/invoke/MethodHandle" ∧ yX5_readsTongues.cls ≠ "java/lang/invoke/VarHandle" ∧ (parseMethodDescriptor yX5_readsTongues.desc).map (fun d => d.parameters.length) = some 0 := by decide +kernel
set_option maxHeartbeats 4000000 in
set_option maxRecDepth 100000 in
theorem kX5_readsTongues (l : Launch) (D : va_G) (g : zG) (ad : Nat → Nat) (σ : zSt) (o : Int32 × zSt) (h : fX5_readsTongues σ = some o) : zMi l D g 0 ad yX5_readsTongues (Cond.code yX5_readsTongues cX5_readsTongues 1 (some .boolean) :: zws) (zRm 3) [.ref (ad 2)] σ o.1 o.2 := by
  refine z_enter_i (by decide) (Nat.le_of_ble_eq_true rfl) ?_
  intro p e s m below meth c A ls Q C hw hl hret
  obtain ⟨hx, hb, hml, hown, hts, hK, hA⟩ := id C
  have hown : s.vm.findClass RX5 = some m.cls := hown
  have C : zCx p c cX5_readsTongues s _ RX5 m 1 A s.heap D g := C
  have hl : lv_has ls 1 [(0, .ref (ad 2))] := hl
  unfold fX5_readsTongues at h
  refine lv_aload_n hx hb dX5_readsTongues_0 rfl (lv_at hl 0 rfl) ?_
  refine lv_bipush (v := 119) hx hb dX5_readsTongues_1 (by decide) ?_
  obtain ⟨r1, e2, h⟩ := zbind h
  refine z_cVi (As := [.int (119 : Int32)]) (rest := []) ⟨hx, hb, hml, hown, hts⟩ hK hw hA (kX5_takesSign l D g ad σ (119 : Int32) r1 e2) (zcwV 1 hts zgoodIn zw_369 zw_371 zw_3 zw_55 zw_372 rfl rfl hX5_takesSign ⟨Nat.le_of_ble_eq_true rfl, Nat.le_of_ble_eq_true rfl⟩) zO0_2 rfl hl.1 rfl (Nat.le_of_ble_eq_true rfl) dX5_readsTongues_3 ⟨Nat.zero_le _, Nat.zero_le _⟩ (fun H locs hw => ?_)
  refine lv_if_ne (tgt := 11) hx hb dX5_readsTongues_6 (by decide) (fun t3 => ?_) (fun t3 => ?_)
  · rw [if_neg t3] at h
    refine lv_aload_n hx hb dX5_readsTongues_11 rfl (lv_at hl 0 rfl) ?_
    refine lv_aload_n hx hb dX5_readsTongues_12 rfl (lv_at hl 0 rfl) ?_
    refine lv_iconst (v := 2) hx hb dX5_readsTongues_13 (by decide) ?_
    refine lv_bipush (v := 6) hx hb dX5_readsTongues_14 (by decide) ?_
    obtain ⟨r4, e5, h⟩ := zbind h
    refine z_cVi (As := [.int (2 : Int32), .int (6 : Int32)]) (rest := [.ref (ad 2)]) ⟨hx, hb, hml, hown, hts⟩ hK hw hA (kX5_takeDigit l D g ad r1.2 (2 : Int32) (6 : Int32) r4 e5) (zcwV 2 hts zgoodIn zw_373 zw_375 zw_4 zw_55 zw_376 rfl rfl hX5_takeDigit ⟨Nat.le_of_ble_eq_true rfl, Nat.le_of_ble_eq_true rfl⟩) zO0_2 rfl hl.1 rfl (Nat.le_of_ble_eq_true rfl) dX5_readsTongues_16 ⟨Nat.zero_le _, Nat.zero_le _⟩ (fun H locs hw => ?_)
    refine z_puti hx hb hts zin_X5 tyX5_ok nmX5 hown hK hw zF0_2_1 (hts _ zw_108) zY0_2_1 dX5_readsTongues_19 (fun H locs hw => ?_)
    refine lv_aload_n hx hb dX5_readsTongues_22 rfl (lv_at hl 0 rfl) ?_
    refine z_geti hx hb hts zin_X5 hown hK hw zF0_2_1 (hts _ zw_108) dX5_readsTongues_23 ?_
    refine lv_if_lt (tgt := 87) hx hb dX5_readsTongues_26 (by decide) (fun t6 => ?_) (fun t6 => ?_)
    · rw [if_pos t6] at h
      refine lv_iconst (v := 0) hx hb dX5_readsTongues_87 (by decide) ?_
      obtain rfl := Option.some.inj h
      exact hret _ _ _ _ hw zb0 dX5_readsTongues_88
    · rw [if_neg t6] at h
      refine lv_aload_n hx hb dX5_readsTongues_29 rfl (lv_at hl 0 rfl) ?_
      refine lv_iconst (v := 0) hx hb dX5_readsTongues_30 (by decide) ?_
      refine lv_aload_n hx hb dX5_readsTongues_31 rfl (lv_at hl 0 rfl) ?_
      refine z_geti hx hb hts zin_X5 hown hK hw zF0_2_1 (hts _ zw_108) dX5_readsTongues_32 ?_
      obtain ⟨r7, e8, h⟩ := zbind h
      refine z_cVi (As := [.int (0 : Int32), .int (zI (zwI r4.2 2 1 r4.1) 2 1)]) (rest := []) ⟨hx, hb, hml, hown, hts⟩ hK hw hA (kX5_takesTable l D g ad (zwI r4.2 2 1 r4.1) (0 : Int32) (zI (zwI r4.2 2 1 r4.1) 2 1) r7 e8) (zcwV 2 hts zgoodIn zw_377 zw_379 zw_5 zw_55 zw_380 rfl rfl hX5_takesTable ⟨Nat.le_of_ble_eq_true rfl, Nat.le_of_ble_eq_true rfl⟩) zO0_2 rfl hl.1 rfl (Nat.le_of_ble_eq_true rfl) dX5_readsTongues_35 ⟨Nat.zero_le _, Nat.zero_le _⟩ (fun H locs hw => ?_)
      refine lv_if_eq (tgt := 87) hx hb dX5_readsTongues_38 (by decide) (fun t9 => ?_) (fun t9 => ?_)
      · rw [if_pos t9] at h
        refine lv_iconst (v := 0) hx hb dX5_readsTongues_87 (by decide) ?_
        obtain rfl := Option.some.inj h
        exact hret _ _ _ _ hw zb0 dX5_readsTongues_88
      · rw [if_neg t9] at h
        refine lv_aload_n hx hb dX5_readsTongues_41 rfl (lv_at hl 0 rfl) ?_
        refine lv_bipush (v := 59) hx hb dX5_readsTongues_42 (by decide) ?_
        obtain ⟨r10, e11, h⟩ := zbind h
        refine z_cVi (As := [.int (59 : Int32)]) (rest := []) ⟨hx, hb, hml, hown, hts⟩ hK hw hA (kX5_takesSign l D g ad r7.2 (59 : Int32) r10 e11) (zcwV 1 hts zgoodIn zw_369 zw_371 zw_3 zw_55 zw_372 rfl rfl hX5_takesSign ⟨Nat.le_of_ble_eq_true rfl, Nat.le_of_ble_eq_true rfl⟩) zO0_2 rfl hl.1 rfl (Nat.le_of_ble_eq_true rfl) dX5_readsTongues_44 ⟨Nat.zero_le _, Nat.zero_le _⟩ (fun H locs hw => ?_)
        refine lv_if_eq (tgt := 87) hx hb dX5_readsTongues_47 (by decide) (fun t12 => ?_) (fun t12 => ?_)
        · rw [if_pos t12] at h
          refine lv_iconst (v := 0) hx hb dX5_readsTongues_87 (by decide) ?_
          obtain rfl := Option.some.inj h
          exact hret _ _ _ _ hw zb0 dX5_readsTongues_88
        · rw [if_neg t12] at h
          refine lv_aload_n hx hb dX5_readsTongues_50 rfl (lv_at hl 0 rfl) ?_
          refine lv_bipush (v := 98) hx hb dX5_readsTongues_51 (by decide) ?_
          obtain ⟨r13, e14, h⟩ := zbind h
          refine z_cVi (As := [.int (98 : Int32)]) (rest := []) ⟨hx, hb, hml, hown, hts⟩ hK hw hA (kX5_takesSign l D g ad r10.2 (98 : Int32) r13 e14) (zcwV 1 hts zgoodIn zw_369 zw_371 zw_3 zw_55 zw_372 rfl rfl hX5_takesSign ⟨Nat.le_of_ble_eq_true rfl, Nat.le_of_ble_eq_true rfl⟩) zO0_2 rfl hl.1 rfl (Nat.le_of_ble_eq_true rfl) dX5_readsTongues_53 ⟨Nat.zero_le _, Nat.zero_le _⟩ (fun H locs hw => ?_)
          refine lv_if_eq (tgt := 87) hx hb dX5_readsTongues_56 (by decide) (fun t15 => ?_) (fun t15 => ?_)
          · rw [if_pos t15] at h
            refine lv_iconst (v := 0) hx hb dX5_readsTongues_87 (by decide) ?_
            obtain rfl := Option.some.inj h
            exact hret _ _ _ _ hw zb0 dX5_readsTongues_88
          · rw [if_neg t15] at h
            refine lv_aload_n hx hb dX5_readsTongues_59 rfl (lv_at hl 0 rfl) ?_
            refine lv_bipush (v := 6) hx hb dX5_readsTongues_60 (by decide) ?_
            refine lv_aload_n hx hb dX5_readsTongues_62 rfl (lv_at hl 0 rfl) ?_
            refine z_geti hx hb hts zin_X5 hown hK hw zF0_2_1 (hts _ zw_108) dX5_readsTongues_63 ?_
            obtain ⟨r16, e17, h⟩ := zbind h
            refine z_cVi (As := [.int (6 : Int32), .int (zI r13.2 2 1)]) (rest := []) ⟨hx, hb, hml, hown, hts⟩ hK hw hA (kX5_takesTable l D g ad r13.2 (6 : Int32) (zI r13.2 2 1) r16 e17) (zcwV 2 hts zgoodIn zw_377 zw_379 zw_5 zw_55 zw_380 rfl rfl hX5_takesTable ⟨Nat.le_of_ble_eq_true rfl, Nat.le_of_ble_eq_true rfl⟩) zO0_2 rfl hl.1 rfl (Nat.le_of_ble_eq_true rfl) dX5_readsTongues_66 ⟨Nat.zero_le _, Nat.zero_le _⟩ (fun H locs hw => ?_)
            refine lv_if_eq (tgt := 87) hx hb dX5_readsTongues_69 (by decide) (fun t18 => ?_) (fun t18 => ?_)
            · rw [if_pos t18] at h
              refine lv_iconst (v := 0) hx hb dX5_readsTongues_87 (by decide) ?_
              obtain rfl := Option.some.inj h
              exact hret _ _ _ _ hw zb0 dX5_readsTongues_88
            · rw [if_neg t18] at h
              refine lv_aload_n hx hb dX5_readsTongues_72 rfl (lv_at hl 0 rfl) ?_
              refine z_geti hx hb hts zin_X5 hown hK hw zF0_2_5 (hts _ zw_113) dX5_readsTongues_73 ?_
              refine lv_aload_n hx hb dX5_readsTongues_76 rfl (lv_at hl 0 rfl) ?_
              refine z_geti hx hb hts zin_X5 hown hK hw zF0_2_6 (hts _ zw_114) dX5_readsTongues_77 ?_
              refine lv_icmp_ne (tgt := 87) hx hb dX5_readsTongues_80 (by decide) (fun t19 => ?_) (fun t19 => ?_)
              · rw [if_neg t19] at h
                refine lv_iconst (v := 0) hx hb dX5_readsTongues_87 (by decide) ?_
                obtain rfl := Option.some.inj h
                exact hret _ _ _ _ hw zb0 dX5_readsTongues_88
              · rw [if_pos t19] at h
                refine lv_iconst (v := 1) hx hb dX5_readsTongues_83 (by decide) ?_
                refine lv_goto (tgt := 88) hx hb dX5_readsTongues_84 (by decide) ?_
                obtain rfl := Option.some.inj h
                exact hret _ _ _ _ hw zb1 dX5_readsTongues_88
  · rw [if_pos t3] at h
    refine lv_iconst (v := 0) hx hb dX5_readsTongues_9 (by decide) ?_
    obtain rfl := Option.some.inj h
    exact hret _ _ _ _ hw zb0 dX5_readsTongues_10
theorem hX5_readsWitness : yX5_readsWitness.cls = RX5 ∧ yX5_readsWitness.cls ≠ "java/lang/invoke/MethodHandle" ∧ yX5_readsWitness.cls ≠ "java/lang/invoke/VarHandle" ∧ (parseMethodDescriptor yX5_readsWitness.desc).map (fun d => d.parameters.length) = some 1 := by decide +kernel
set_option maxHeartbeats 4000000 in
set_option maxRecDepth 100000 in
theorem kX5_readsWitness (l : Launch) (D : va_G) (g : zG) (ad : Nat → Nat) (σ : zSt) (x1 : Int32) (o : Int32 × zSt) (h : fX5_readsWitness σ x1 = some o) : zMi l D g 0 ad yX5_readsWitness (Cond.code yX5_readsWitness cX5_readsWitness 2 (some .boolean) :: zws) (zRm 3) [.ref (ad 2), .int x1] σ o.1 o.2 := by
  refine z_enter_i (by decide) (Nat.le_of_ble_eq_true rfl) ?_
  intro p e s m below meth c A ls Q C hw hl hret
  obtain ⟨hx, hb, hml, hown, hts, hK, hA⟩ := id C
  have hown : s.vm.findClass RX5 = some m.cls := hown
  have C : zCx p c cX5_readsWitness s _ RX5 m 2 A s.heap D g := C
  have hl : lv_has ls 2 [(0, .ref (ad 2)), (1, .int x1)] := hl
  unfold fX5_readsWitness at h
  refine lv_aload_n hx hb dX5_readsWitness_0 rfl (lv_at hl 0 rfl) ?_
  refine lv_bipush (v := 118) hx hb dX5_readsWitness_1 (by decide) ?_
  obtain ⟨r1, e2, h⟩ := zbind h
  refine z_cVi (As := [.int (118 : Int32)]) (rest := []) ⟨hx, hb, hml, hown, hts⟩ hK hw hA (kX5_takesSign l D g ad σ (118 : Int32) r1 e2) (zcwV 1 hts zgoodIn zw_369 zw_371 zw_3 zw_55 zw_372 rfl rfl hX5_takesSign ⟨Nat.le_of_ble_eq_true rfl, Nat.le_of_ble_eq_true rfl⟩) zO0_2 rfl hl.1 rfl (Nat.le_of_ble_eq_true rfl) dX5_readsWitness_3 ⟨Nat.zero_le _, Nat.zero_le _⟩ (fun H locs hw => ?_)
  refine lv_if_eq (tgt := 36) hx hb dX5_readsWitness_6 (by decide) (fun t3 => ?_) (fun t3 => ?_)
  · rw [if_pos t3] at h
    refine lv_iconst (v := 0) hx hb dX5_readsWitness_36 (by decide) ?_
    obtain rfl := Option.some.inj h
    exact hret _ _ _ _ hw zb0 dX5_readsWitness_37
  · rw [if_neg t3] at h
    refine lv_aload_n hx hb dX5_readsWitness_9 rfl (lv_at hl 0 rfl) ?_
    refine lv_iconst (v := 0) hx hb dX5_readsWitness_10 (by decide) ?_
    refine lv_iload_n hx hb dX5_readsWitness_11 rfl (lv_at hl 1 rfl) ?_
    obtain ⟨r4, e5, h⟩ := zbind h
    refine z_cVi (As := [.int (0 : Int32), .int x1]) (rest := []) ⟨hx, hb, hml, hown, hts⟩ hK hw hA (kX5_takesTable l D g ad r1.2 (0 : Int32) x1 r4 e5) (zcwV 2 hts zgoodIn zw_377 zw_379 zw_5 zw_55 zw_380 rfl rfl hX5_takesTable ⟨Nat.le_of_ble_eq_true rfl, Nat.le_of_ble_eq_true rfl⟩) zO0_2 rfl hl.1 rfl (Nat.le_of_ble_eq_true rfl) dX5_readsWitness_12 ⟨Nat.zero_le _, Nat.zero_le _⟩ (fun H locs hw => ?_)
    refine lv_if_eq (tgt := 36) hx hb dX5_readsWitness_15 (by decide) (fun t6 => ?_) (fun t6 => ?_)
    · rw [if_pos t6] at h
      refine lv_iconst (v := 0) hx hb dX5_readsWitness_36 (by decide) ?_
      obtain rfl := Option.some.inj h
      exact hret _ _ _ _ hw zb0 dX5_readsWitness_37
    · rw [if_neg t6] at h
      refine lv_aload_n hx hb dX5_readsWitness_18 rfl (lv_at hl 0 rfl) ?_
      refine lv_bipush (v := 59) hx hb dX5_readsWitness_19 (by decide) ?_
      obtain ⟨r7, e8, h⟩ := zbind h
      refine z_cVi (As := [.int (59 : Int32)]) (rest := []) ⟨hx, hb, hml, hown, hts⟩ hK hw hA (kX5_takesSign l D g ad r4.2 (59 : Int32) r7 e8) (zcwV 1 hts zgoodIn zw_369 zw_371 zw_3 zw_55 zw_372 rfl rfl hX5_takesSign ⟨Nat.le_of_ble_eq_true rfl, Nat.le_of_ble_eq_true rfl⟩) zO0_2 rfl hl.1 rfl (Nat.le_of_ble_eq_true rfl) dX5_readsWitness_21 ⟨Nat.zero_le _, Nat.zero_le _⟩ (fun H locs hw => ?_)
      refine lv_if_eq (tgt := 36) hx hb dX5_readsWitness_24 (by decide) (fun t9 => ?_) (fun t9 => ?_)
      · rw [if_pos t9] at h
        refine lv_iconst (v := 0) hx hb dX5_readsWitness_36 (by decide) ?_
        obtain rfl := Option.some.inj h
        exact hret _ _ _ _ hw zb0 dX5_readsWitness_37
      · rw [if_neg t9] at h
        refine lv_aload_n hx hb dX5_readsWitness_27 rfl (lv_at hl 0 rfl) ?_
        refine lv_bipush (v := 112) hx hb dX5_readsWitness_28 (by decide) ?_
        obtain ⟨r10, e11, h⟩ := zbind h
        refine z_cVi (As := [.int (112 : Int32)]) (rest := []) ⟨hx, hb, hml, hown, hts⟩ hK hw hA (kX5_takesSign l D g ad r7.2 (112 : Int32) r10 e11) (zcwV 1 hts zgoodIn zw_369 zw_371 zw_3 zw_55 zw_372 rfl rfl hX5_takesSign ⟨Nat.le_of_ble_eq_true rfl, Nat.le_of_ble_eq_true rfl⟩) zO0_2 rfl hl.1 rfl (Nat.le_of_ble_eq_true rfl) dX5_readsWitness_30 ⟨Nat.zero_le _, Nat.zero_le _⟩ (fun H locs hw => ?_)
        refine lv_if_ne (tgt := 38) hx hb dX5_readsWitness_33 (by decide) (fun t12 => ?_) (fun t12 => ?_)
        · rw [if_neg t12] at h
          refine lv_aload_n hx hb dX5_readsWitness_38 rfl (lv_at hl 0 rfl) ?_
          refine lv_aload_n hx hb dX5_readsWitness_39 rfl (lv_at hl 0 rfl) ?_
          refine lv_iconst (v := 0) hx hb dX5_readsWitness_40 (by decide) ?_
          refine lv_bipush (v := 9) hx hb dX5_readsWitness_41 (by decide) ?_
          obtain ⟨r13, e14, h⟩ := zbind h
          refine z_cVi (As := [.int (0 : Int32), .int (9 : Int32)]) (rest := [.ref (ad 2)]) ⟨hx, hb, hml, hown, hts⟩ hK hw hA (kX5_takeDigit l D g ad r10.2 (0 : Int32) (9 : Int32) r13 e14) (zcwV 2 hts zgoodIn zw_373 zw_375 zw_4 zw_55 zw_376 rfl rfl hX5_takeDigit ⟨Nat.le_of_ble_eq_true rfl, Nat.le_of_ble_eq_true rfl⟩) zO0_2 rfl hl.1 rfl (Nat.le_of_ble_eq_true rfl) dX5_readsWitness_43 ⟨Nat.zero_le _, Nat.zero_le _⟩ (fun H locs hw => ?_)
          refine z_puti hx hb hts zin_X5 tyX5_ok nmX5 hown hK hw zF0_2_2 (hts _ zw_109) zY0_2_2 dX5_readsWitness_46 (fun H locs hw => ?_)
          refine lv_aload_n hx hb dX5_readsWitness_49 rfl (lv_at hl 0 rfl) ?_
          refine z_geti hx hb hts zin_X5 hown hK hw zF0_2_2 (hts _ zw_109) dX5_readsWitness_50 ?_
          refine lv_if_lt (tgt := 71) hx hb dX5_readsWitness_53 (by decide) (fun t15 => ?_) (fun t15 => ?_)
          · rw [if_pos t15] at h
            refine lv_iconst (v := 0) hx hb dX5_readsWitness_71 (by decide) ?_
            obtain rfl := Option.some.inj h
            exact hret _ _ _ _ hw zb0 dX5_readsWitness_72
          · rw [if_neg t15] at h
            refine lv_aload_n hx hb dX5_readsWitness_56 rfl (lv_at hl 0 rfl) ?_
            refine z_geti hx hb hts zin_X5 hown hK hw zF0_2_5 (hts _ zw_113) dX5_readsWitness_57 ?_
            refine lv_aload_n hx hb dX5_readsWitness_60 rfl (lv_at hl 0 rfl) ?_
            refine z_geti hx hb hts zin_X5 hown hK hw zF0_2_6 (hts _ zw_114) dX5_readsWitness_61 ?_
            refine lv_icmp_ne (tgt := 71) hx hb dX5_readsWitness_64 (by decide) (fun t16 => ?_) (fun t16 => ?_)
            · rw [if_neg t16] at h
              refine lv_iconst (v := 0) hx hb dX5_readsWitness_71 (by decide) ?_
              obtain rfl := Option.some.inj h
              exact hret _ _ _ _ hw zb0 dX5_readsWitness_72
            · rw [if_pos t16] at h
              refine lv_iconst (v := 1) hx hb dX5_readsWitness_67 (by decide) ?_
              refine lv_goto (tgt := 72) hx hb dX5_readsWitness_68 (by decide) ?_
              obtain rfl := Option.some.inj h
              exact hret _ _ _ _ hw zb1 dX5_readsWitness_72
        · rw [if_pos t12] at h
          refine lv_iconst (v := 0) hx hb dX5_readsWitness_36 (by decide) ?_
          obtain rfl := Option.some.inj h
          exact hret _ _ _ _ hw zb0 dX5_readsWitness_37
theorem hX6_has : yX6_has.cls = RX6 ∧ yX6_has.cls ≠ "java/lang/invoke/MethodHandle" ∧ yX6_has.cls ≠ "java/lang/invoke/VarHandle" ∧ (parseMethodDescriptor yX6_has.desc).map (fun d => d.parameters.length) = some 1 := by decide +kernel
set_option maxHeartbeats 4000000 in
set_option maxRecDepth 100000 in
theorem kX6_has (l : Launch) (D : va_G) (g : zG) (ad : Nat → Nat) (σ : zSt) (x1 : Int32) (o : Int32) (h : fX6_has x1 = o) : zMi l D g 0 ad yX6_has (Cond.code yX6_has cX6_has 2 (some .boolean) :: zws) (zRm 0) [.ref (ad 1), .int x1] σ o σ := by
  refine z_enter_i (by decide) (Nat.le_of_ble_eq_true rfl) ?_
  intro p e s m below meth c A ls Q C hw hl hret
  obtain ⟨hx, hb, hml, hown, hts, hK, hA⟩ := id C
  have hown : s.vm.findClass RX6 = some m.cls := hown
  have C : zCx p c cX6_has s _ RX6 m 2 A s.heap D g := C
  have hl : lv_has ls 2 [(0, .ref (ad 1)), (1, .int x1)] := hl
  unfold fX6_has at h
  refine lv_iload_n hx hb dX6_has_0 rfl (lv_at hl 1 rfl) ?_
  refine lv_if_lt (tgt := 13) hx hb dX6_has_1 (by decide) (fun t1 => ?_) (fun t1 => ?_)
  · rw [if_pos t1] at h
    refine lv_iconst (v := 0) hx hb dX6_has_13 (by decide) ?_
    subst h
    exact hret _ _ _ _ hw zb0 dX6_has_14
  · rw [if_neg t1] at h
    refine lv_iload_n hx hb dX6_has_4 rfl (lv_at hl 1 rfl) ?_
    refine lv_iconst (v := 4) hx hb dX6_has_5 (by decide) ?_
    refine lv_icmp_ge (tgt := 13) hx hb dX6_has_6 (by decide) (fun t2 => ?_) (fun t2 => ?_)
    · rw [if_pos t2] at h
      refine lv_iconst (v := 0) hx hb dX6_has_13 (by decide) ?_
      subst h
      exact hret _ _ _ _ hw zb0 dX6_has_14
    · rw [if_neg t2] at h
      refine lv_iconst (v := 1) hx hb dX6_has_9 (by decide) ?_
      refine lv_goto (tgt := 14) hx hb dX6_has_10 (by decide) ?_
      subst h
      exact hret _ _ _ _ hw zb1 dX6_has_14
set_option maxHeartbeats 4000000 in
set_option maxRecDepth 100000 in
theorem wJ7_fill_53178_5 {p : Program} {l : Launch} {e : Env} {s : State} {m : MethodId} {args : Array Value} {below : List Frame} {meth : Method} {c : Code} {A : Nat → Prop} {H0 : Heap} {Q : State → Prop} {D : va_G} {g : zG} {ad : Nat → Nat} (C : zCx p c cJ7_fill_53178 s args RJ7 m 4 A H0 D g) (x0 : Nat) (x1 : Int32) (x3 : Int32) (n : Nat) (a : (Int32 × zSt)) (b : (Int32 × zSt)) (h : zLp (fun a => bJ7_fill_53178_5 x0 x1 x3 a.1 a.2) n a = some b) (hk : ∀ (H : Heap) (locs : List Loc) (ls : Array Slot), zH D g 0 ad A H0 b.2 H locs → lv_has ls 4 [(0, .ref (ad x0)), (1, .int x1), (2, .int b.1), (3, .int x3)] → W p l e (zRm 0) s m args below meth c H locs 0 0 Q (F0 m 20 ls [])) : ∀ (H : Heap) (locs : List Loc) (ls : Array Slot), zH D g 0 ad A H0 a.2 H locs → lv_has ls 4 [(0, .ref (ad x0)), (1, .int x1), (2, .int a.1), (3, .int x3)] → W p l e (zRm 0) s m args below meth c H locs 0 0 Q (F0 m 5 ls []) := by
  obtain ⟨hx, hb, hml, hown, hts, hK, hA⟩ := id C
  refine zLp_walk (P := fun (a : (Int32 × zSt)) => ∀ (H : Heap) (locs : List Loc) (ls : Array Slot), zH D g 0 ad A H0 a.2 H locs → lv_has ls 4 [(0, .ref (ad x0)), (1, .int x1), (2, .int a.1), (3, .int x3)] → W p l e (zRm 0) s m args below meth c H locs 0 0 Q (F0 m 5 ls [])) (E := fun (b' : (Int32 × zSt)) => b' = b) ?_ n a b h rfl
  intro a r h hn he H locs ls hw hl
  obtain ⟨x2, σ⟩ := a
  have h : bJ7_fill_53178_5 x0 x1 x3 x2 σ = some r := h
  have hl : lv_has ls 4 [(0, .ref (ad x0)), (1, .int x1), (2, .int x2), (3, .int x3)] := hl
  have hw : zH D g 0 ad A H0 σ H locs := hw
  unfold bJ7_fill_53178_5 at h
  refine lv_iload_n hx hb dJ7_fill_53178_5 rfl (lv_at hl 2 rfl) ?_
  refine lv_iload_n hx hb dJ7_fill_53178_6 rfl (lv_at hl 3 rfl) ?_
  refine lv_icmp_ge (tgt := 20) hx hb dJ7_fill_53178_7 (by decide) (fun t1 => ?_) (fun t1 => ?_)
  · rw [if_pos t1] at h
    obtain rfl := Option.some.inj h
    obtain rfl := he _ rfl
    exact hk _ _ _ hw (lv_sub hl [0, 1, 2, 3] rfl)
  · rw [if_neg t1] at h
    refine lv_aload_n hx hb dJ7_fill_53178_10 rfl (lv_at hl 0 rfl) ?_
    refine lv_iload_n hx hb dJ7_fill_53178_11 rfl (lv_at hl 2 rfl) ?_
    refine lv_iload_n hx hb dJ7_fill_53178_12 rfl (lv_at hl 1 rfl) ?_
    obtain ⟨s2, e3, h⟩ := zbind h
    refine z_iast hx hb hK hw e3 dJ7_fill_53178_13 (fun H locs hw => ?_)
    refine lv_iinc (v := x2 + 1) (lv' := [(2, .int (x2 + 1)), (0, .ref (ad x0)), (1, .int x1), (3, .int x3)]) hx hb dJ7_fill_53178_14 hl (k := 2) rfl rfl (by decide) rfl (fun ls hl => ?_)
    refine lv_goto (tgt := 5) hx hb dJ7_fill_53178_17 (by decide) ?_
    obtain rfl := Option.some.inj h
    exact hn _ rfl _ _ _ hw (lv_sub hl [1, 2, 0, 3] rfl)
theorem hJ7_fill_53178 : yJ7_fill_53178.cls ≠ "java/lang/invoke/MethodHandle" ∧ yJ7_fill_53178.cls ≠ "java/lang/invoke/VarHandle" ∧ (parseMethodDescriptor yJ7_fill_53178.desc).map (fun d => d.parameters.length) = some 2 := by decide +kernel
set_option maxHeartbeats 4000000 in
set_option maxRecDepth 100000 in
theorem kJ7_fill_53178 (l : Launch) (D : va_G) (g : zG) (ad : Nat → Nat) (σ : zSt) (x0 : Nat) (x1 : Int32) (o : zSt) (h : fJ7_fill_53178 σ x0 x1 = some o) : zMv l D g 0 ad yJ7_fill_53178 (Cond.code yJ7_fill_53178 cJ7_fill_53178 4 (none : Option Jvm.ClassFile.FieldType) :: zws) (zRm 0) [.ref (ad x0), .int x1] σ o := by
  refine z_enter_v (by decide) (Nat.le_of_ble_eq_true rfl) ?_
  intro p e s m below meth c A ls Q C hw hl hret
  obtain ⟨hx, hb, hml, hown, hts, hK, hA⟩ := id C
  have hown : s.vm.findClass RJ7 = some m.cls := hown
  have C : zCx p c cJ7_fill_53178 s _ RJ7 m 4 A s.heap D g := C
  have hl : lv_has ls 4 [(0, .ref (ad x0)), (1, .int x1)] := hl
  unfold fJ7_fill_53178 at h
  refine lv_iconst (v := 0) hx hb dJ7_fill_53178_0 (by decide) ?_
  refine lv_istore_n (lv' := [(2, .int (0 : Int32)), (0, .ref (ad x0)), (1, .int x1)]) hx hb dJ7_fill_53178_1 rfl hl (by decide) rfl (fun ls hl => ?_)
  refine lv_aload_n hx hb dJ7_fill_53178_2 rfl (lv_at hl 1 rfl) ?_
  obtain ⟨v1, e2, h⟩ := zbind h
  refine z_alen hx hb hK hw e2 dJ7_fill_53178_3 ?_
  refine lv_istore_n (lv' := [(3, .int v1), (2, .int (0 : Int32)), (0, .ref (ad x0)), (1, .int x1)]) hx hb dJ7_fill_53178_4 rfl hl (by decide) rfl (fun ls hl => ?_)
  obtain ⟨b3, e4, h⟩ := zbind h
  refine wJ7_fill_53178_5 C x0 x1 v1 zFU ((0 : Int32), σ) b3 e4 (fun H locs ls hw hl => ?_) _ _ _ hw (lv_sub hl [2, 3, 1, 0] rfl)
  have hl : lv_has ls 4 [(0, .ref (ad x0)), (1, .int x1), (2, .int b3.1), (3, .int v1)] := hl
  obtain rfl := Option.some.inj h
  exact hret _ _ _ _ hw dJ7_fill_53178_20
theorem hX6_renew : yX6_renew.cls = RX6 ∧ yX6_renew.cls ≠ "java/lang/invoke/MethodHandle" ∧ yX6_renew.cls ≠ "java/lang/invoke/VarHandle" ∧ (parseMethodDescriptor yX6_renew.desc).map (fun d => d.parameters.length) = some 3 := by decide +kernel
set_option maxHeartbeats 4000000 in
set_option maxRecDepth 100000 in
theorem kX6_renew (l : Launch) (D : va_G) (g : zG) (ad : Nat → Nat) (σ : zSt) (x1 : Int32) (x2 : Int32) (x3 : Int32) (o : zSt) (h : fX6_renew σ x1 x2 x3 = some o) : zMv l D g 0 ad yX6_renew (Cond.code yX6_renew cX6_renew 4 (none : Option Jvm.ClassFile.FieldType) :: zws) (zRm 1) [.ref (ad 1), .int x1, .int x2, .int x3] σ o := by
  refine z_enter_v (by decide) (Nat.le_of_ble_eq_true rfl) ?_
  intro p e s m below meth c A ls Q C hw hl hret
  obtain ⟨hx, hb, hml, hown, hts, hK, hA⟩ := id C
  have hown : s.vm.findClass RX6 = some m.cls := hown
  have C : zCx p c cX6_renew s _ RX6 m 4 A s.heap D g := C
  have hl : lv_has ls 4 [(0, .ref (ad 1)), (1, .int x1), (2, .int x2), (3, .int x3)] := hl
  unfold fX6_renew at h
  refine lv_aload_n hx hb dX6_renew_0 rfl (lv_at hl 0 rfl) ?_
  refine z_getc hx hb hts zin_X6 hown hK hw zF0_1_0 (hts _ zw_86) dX6_renew_1 ?_
  refine lv_iload_n hx hb dX6_renew_4 rfl (lv_at hl 1 rfl) ?_
  obtain ⟨q1, e2, h⟩ := zbind h
  refine z_aald hx hb hK hw e2 dX6_renew_5 ?_
  refine lv_iconst (v := 0) hx hb dX6_renew_6 (by decide) ?_
  obtain ⟨r3, e4, h⟩ := zbind h
  refine z_cSv (As := [.ref (ad q1), .int (0 : Int32)]) (rest := []) ⟨hx, hb, hml, hown, hts⟩ hK hw hA (kJ7_fill_53178 l D g ad σ q1 (0 : Int32) r3 e4) (zcwS 2 hts zgoodIn zw_83 zw_84 zw_54 zw_85 rfl rfl hJ7_fill_53178 ⟨Nat.le_of_ble_eq_true rfl, Nat.le_of_ble_eq_true rfl⟩) rfl hl.1 rfl (Nat.le_of_ble_eq_true rfl) dX6_renew_7 ⟨Nat.zero_le _, Nat.zero_le _⟩ (fun H locs hw => ?_)
  refine lv_aload_n hx hb dX6_renew_10 rfl (lv_at hl 0 rfl) ?_
  refine z_getc hx hb hts zin_X6 hown hK hw zF0_1_1 (hts _ zw_88) dX6_renew_11 ?_
  refine lv_iload_n hx hb dX6_renew_14 rfl (lv_at hl 1 rfl) ?_
  refine lv_iload_n hx hb dX6_renew_15 rfl (lv_at hl 2 rfl) ?_
  obtain ⟨s5, e6, h⟩ := zbind h
  refine z_iast hx hb hK hw e6 dX6_renew_16 (fun H locs hw => ?_)
  refine lv_aload_n hx hb dX6_renew_17 rfl (lv_at hl 0 rfl) ?_
  refine z_getc hx hb hts zin_X6 hown hK hw zF0_1_2 (hts _ zw_89) dX6_renew_18 ?_
  refine lv_iload_n hx hb dX6_renew_21 rfl (lv_at hl 1 rfl) ?_
  refine lv_iload_n hx hb dX6_renew_22 rfl (lv_at hl 3 rfl) ?_
  obtain ⟨s7, e8, h⟩ := zbind h
  refine z_iast hx hb hK hw e8 dX6_renew_23 (fun H locs hw => ?_)
  obtain rfl := Option.some.inj h
  exact hret _ _ _ _ hw dX6_renew_24
theorem hX6_drop : yX6_drop.cls = RX6 ∧ yX6_drop.cls ≠ "java/lang/invoke/MethodHandle" ∧ yX6_drop.cls ≠ "java/lang/invoke/VarHandle" ∧ (parseMethodDescriptor yX6_drop.desc).map (fun d => d.parameters.length) = some 1 := by decide +kernel
set_option maxHeartbeats 4000000 in
set_option maxRecDepth 100000 in
theorem kX6_drop (l : Launch) (D : va_G) (g : zG) (ad : Nat → Nat) (σ : zSt) (x1 : Int32) (o : Int32 × zSt) (h : fX6_drop σ x1 = some o) : zMi l D g 0 ad yX6_drop (Cond.code yX6_drop cX6_drop 3 (some .boolean) :: zws) (zRm 0) [.ref (ad 1), .int x1] σ o.1 o.2 := by
  refine z_enter_i (by decide) (Nat.le_of_ble_eq_true rfl) ?_
  intro p e s m below meth c A ls Q C hw hl hret
  obtain ⟨hx, hb, hml, hown, hts, hK, hA⟩ := id C
  have hown : s.vm.findClass RX6 = some m.cls := hown
  have C : zCx p c cX6_drop s _ RX6 m 3 A s.heap D g := C
  have hl : lv_has ls 3 [(0, .ref (ad 1)), (1, .int x1)] := hl
  unfold fX6_drop at h
  refine lv_aload_n hx hb dX6_drop_0 rfl (lv_at hl 0 rfl) ?_
  refine z_getc hx hb hts zin_X6 hown hK hw zF0_1_2 (hts _ zw_89) dX6_drop_1 ?_
  refine lv_iload_n hx hb dX6_drop_4 rfl (lv_at hl 1 rfl) ?_
  obtain ⟨v1, e2, h⟩ := zbind h
  refine z_iald hx hb hK hw e2 dX6_drop_5 ?_
  refine lv_iconst (v := (-1)) hx hb dX6_drop_6 (by decide) ?_
  refine lv_icmp_eq (tgt := 14) hx hb dX6_drop_7 (by decide) (fun t3 => ?_) (fun t3 => ?_)
  · rw [if_pos t3] at h
    refine lv_iconst (v := 0) hx hb dX6_drop_14 (by decide) ?_
    refine lv_istore_n (lv' := [(2, .int (0 : Int32)), (0, .ref (ad 1)), (1, .int x1)]) hx hb dX6_drop_15 rfl hl (by decide) rfl (fun ls hl => ?_)
    refine lv_aload_n hx hb dX6_drop_16 rfl (lv_at hl 1 rfl) ?_
    refine z_getc hx hb hts zin_X6 hown hK hw zF0_1_2 (hts _ zw_89) dX6_drop_17 ?_
    refine lv_iload_n hx hb dX6_drop_20 rfl (lv_at hl 2 rfl) ?_
    refine lv_iconst (v := (-1)) hx hb dX6_drop_21 (by decide) ?_
    obtain ⟨s4, e5, h⟩ := zbind h
    refine z_iast hx hb hK hw e5 dX6_drop_22 (fun H locs hw => ?_)
    refine lv_iload_n hx hb dX6_drop_23 rfl (lv_at hl 0 rfl) ?_
    obtain rfl := Option.some.inj h
    exact hret _ _ _ _ hw zb0 dX6_drop_24
  · rw [if_neg t3] at h
    refine lv_iconst (v := 1) hx hb dX6_drop_10 (by decide) ?_
    refine lv_goto (tgt := 15) hx hb dX6_drop_11 (by decide) ?_
    refine lv_istore_n (lv' := [(2, .int (1 : Int32)), (0, .ref (ad 1)), (1, .int x1)]) hx hb dX6_drop_15 rfl hl (by decide) rfl (fun ls hl => ?_)
    refine lv_aload_n hx hb dX6_drop_16 rfl (lv_at hl 1 rfl) ?_
    refine z_getc hx hb hts zin_X6 hown hK hw zF0_1_2 (hts _ zw_89) dX6_drop_17 ?_
    refine lv_iload_n hx hb dX6_drop_20 rfl (lv_at hl 2 rfl) ?_
    refine lv_iconst (v := (-1)) hx hb dX6_drop_21 (by decide) ?_
    obtain ⟨s6, e7, h⟩ := zbind h
    refine z_iast hx hb hK hw e7 dX6_drop_22 (fun H locs hw => ?_)
    refine lv_iload_n hx hb dX6_drop_23 rfl (lv_at hl 0 rfl) ?_
    obtain rfl := Option.some.inj h
    exact hret _ _ _ _ hw zb1 dX6_drop_24
theorem hX6_write : yX6_write.cls = RX6 ∧ yX6_write.cls ≠ "java/lang/invoke/MethodHandle" ∧ yX6_write.cls ≠ "java/lang/invoke/VarHandle" ∧ (parseMethodDescriptor yX6_write.desc).map (fun d => d.parameters.length) = some 3 := by decide +kernel
set_option maxHeartbeats 4000000 in
set_option maxRecDepth 100000 in
theorem kX6_write (l : Launch) (D : va_G) (g : zG) (ad : Nat → Nat) (σ : zSt) (x1 : Int32) (x2 : Int32) (x3 : Int32) (o : zSt) (h : fX6_write σ x1 x2 x3 = some o) : zMv l D g 0 ad yX6_write (Cond.code yX6_write cX6_write 4 (none : Option Jvm.ClassFile.FieldType) :: zws) (zRm 0) [.ref (ad 1), .int x1, .int x2, .int x3] σ o := by
  refine z_enter_v (by decide) (Nat.le_of_ble_eq_true rfl) ?_
  intro p e s m below meth c A ls Q C hw hl hret
  obtain ⟨hx, hb, hml, hown, hts, hK, hA⟩ := id C
  have hown : s.vm.findClass RX6 = some m.cls := hown
  have C : zCx p c cX6_write s _ RX6 m 4 A s.heap D g := C
  have hl : lv_has ls 4 [(0, .ref (ad 1)), (1, .int x1), (2, .int x2), (3, .int x3)] := hl
  unfold fX6_write at h
  refine lv_aload_n hx hb dX6_write_0 rfl (lv_at hl 0 rfl) ?_
  refine z_getc hx hb hts zin_X6 hown hK hw zF0_1_0 (hts _ zw_86) dX6_write_1 ?_
  refine lv_iload_n hx hb dX6_write_4 rfl (lv_at hl 1 rfl) ?_
  obtain ⟨q1, e2, h⟩ := zbind h
  refine z_aald hx hb hK hw e2 dX6_write_5 ?_
  refine lv_iload_n hx hb dX6_write_6 rfl (lv_at hl 2 rfl) ?_
  refine lv_aload_n hx hb dX6_write_7 rfl (lv_at hl 0 rfl) ?_
  refine z_getc hx hb hts zin_X6 hown hK hw zF0_1_1 (hts _ zw_88) dX6_write_8 ?_
  refine lv_iload_n hx hb dX6_write_11 rfl (lv_at hl 1 rfl) ?_
  obtain ⟨v3, e4, h⟩ := zbind h
  refine z_iald hx hb hK hw e4 dX6_write_12 ?_
  refine lv_if_ne (tgt := 21) hx hb dX6_write_13 (by decide) (fun t5 => ?_) (fun t5 => ?_)
  · rw [if_neg t5] at h
    refine lv_aload_n hx hb dX6_write_21 rfl (lv_at hl 0 rfl) ?_
    refine z_getc hx hb hts zin_X6 hown hK hw zF0_1_1 (hts _ zw_88) dX6_write_22 ?_
    refine lv_iload_n hx hb dX6_write_25 rfl (lv_at hl 1 rfl) ?_
    obtain ⟨v6, e7, h⟩ := zbind h
    refine z_iald hx hb hK hw e7 dX6_write_26 ?_
    refine lv_iconst (v := 1) hx hb dX6_write_27 (by decide) ?_
    refine lv_icmp_ne (tgt := 36) hx hb dX6_write_28 (by decide) (fun t8 => ?_) (fun t8 => ?_)
    · rw [if_neg t8] at h
      refine lv_iload_n hx hb dX6_write_36 rfl (lv_at hl 3 rfl) ?_
      obtain ⟨s9, e10, h⟩ := zbind h
      refine z_iast hx hb hK hw e10 dX6_write_37 (fun H locs hw => ?_)
      obtain rfl := Option.some.inj h
      exact hret _ _ _ _ hw dX6_write_38
    · rw [if_pos t8] at h
      refine lv_iload_n hx hb dX6_write_31 rfl (lv_at hl 3 rfl) ?_
      refine lv_i2s hx hb dX6_write_32 rfl ?_
      refine lv_goto (tgt := 37) hx hb dX6_write_33 (by decide) ?_
      obtain ⟨s11, e12, h⟩ := zbind h
      refine z_iast hx hb hK hw e12 dX6_write_37 (fun H locs hw => ?_)
      obtain rfl := Option.some.inj h
      exact hret _ _ _ _ hw dX6_write_38
  · rw [if_pos t5] at h
    refine lv_iload_n hx hb dX6_write_16 rfl (lv_at hl 3 rfl) ?_
    refine lv_i2b hx hb dX6_write_17 rfl ?_
    refine lv_goto (tgt := 37) hx hb dX6_write_18 (by decide) ?_
    obtain ⟨s13, e14, h⟩ := zbind h
    refine z_iast hx hb hK hw e14 dX6_write_37 (fun H locs hw => ?_)
    obtain rfl := Option.some.inj h
    exact hret _ _ _ _ hw dX6_write_38
theorem hX6_isOtherSort : yX6_isOtherSort.cls = RX6 ∧ yX6_isOtherSort.cls ≠ "java/lang/invoke/MethodHandle" ∧ yX6_isOtherSort.cls ≠ "java/lang/invoke/VarHandle" ∧ (parseMethodDescriptor yX6_isOtherSort.desc).map (fun d => d.parameters.length) = some 2 := by decide +kernel
set_option maxHeartbeats 4000000 in
set_option maxRecDepth 100000 in
theorem kX6_isOtherSort (l : Launch) (D : va_G) (g : zG) (ad : Nat → Nat) (σ : zSt) (x1 : Int32) (x2 : Int32) (o : Int32) (h : fX6_isOtherSort σ x1 x2 = some o) : zMi l D g 0 ad yX6_isOtherSort (Cond.code yX6_isOtherSort cX6_isOtherSort 3 (some .boolean) :: zws) (zRm 0) [.ref (ad 1), .int x1, .int x2] σ o σ := by
  refine z_enter_i (by decide) (Nat.le_of_ble_eq_true rfl) ?_
  intro p e s m below meth c A ls Q C hw hl hret
  obtain ⟨hx, hb, hml, hown, hts, hK, hA⟩ := id C
  have hown : s.vm.findClass RX6 = some m.cls := hown
  have C : zCx p c cX6_isOtherSort s _ RX6 m 3 A s.heap D g := C
  have hl : lv_has ls 3 [(0, .ref (ad 1)), (1, .int x1), (2, .int x2)] := hl
  unfold fX6_isOtherSort at h
  refine lv_aload_n hx hb dX6_isOtherSort_0 rfl (lv_at hl 0 rfl) ?_
  refine z_getc hx hb hts zin_X6 hown hK hw zF0_1_2 (hts _ zw_89) dX6_isOtherSort_1 ?_
  refine lv_iload_n hx hb dX6_isOtherSort_4 rfl (lv_at hl 1 rfl) ?_
  obtain ⟨v1, e2, h⟩ := zbind h
  refine z_iald hx hb hK hw e2 dX6_isOtherSort_5 ?_
  refine lv_iconst (v := (-1)) hx hb dX6_isOtherSort_6 (by decide) ?_
  refine lv_icmp_eq (tgt := 24) hx hb dX6_isOtherSort_7 (by decide) (fun t3 => ?_) (fun t3 => ?_)
  · rw [if_pos t3] at h
    refine lv_iconst (v := 0) hx hb dX6_isOtherSort_24 (by decide) ?_
    obtain rfl := Option.some.inj h
    exact hret _ _ _ _ hw zb0 dX6_isOtherSort_25
  · rw [if_neg t3] at h
    refine lv_aload_n hx hb dX6_isOtherSort_10 rfl (lv_at hl 0 rfl) ?_
    refine z_getc hx hb hts zin_X6 hown hK hw zF0_1_1 (hts _ zw_88) dX6_isOtherSort_11 ?_
    refine lv_iload_n hx hb dX6_isOtherSort_14 rfl (lv_at hl 1 rfl) ?_
    obtain ⟨v4, e5, h⟩ := zbind h
    refine z_iald hx hb hK hw e5 dX6_isOtherSort_15 ?_
    refine lv_iload_n hx hb dX6_isOtherSort_16 rfl (lv_at hl 2 rfl) ?_
    refine lv_icmp_eq (tgt := 24) hx hb dX6_isOtherSort_17 (by decide) (fun t6 => ?_) (fun t6 => ?_)
    · rw [if_pos t6] at h
      refine lv_iconst (v := 0) hx hb dX6_isOtherSort_24 (by decide) ?_
      obtain rfl := Option.some.inj h
      exact hret _ _ _ _ hw zb0 dX6_isOtherSort_25
    · rw [if_neg t6] at h
      refine lv_iconst (v := 1) hx hb dX6_isOtherSort_20 (by decide) ?_
      refine lv_goto (tgt := 25) hx hb dX6_isOtherSort_21 (by decide) ?_
      obtain rfl := Option.some.inj h
      exact hret _ _ _ _ hw zb1 dX6_isOtherSort_25
theorem hX6_faultOfCell : yX6_faultOfCell.cls = RX6 ∧ yX6_faultOfCell.cls ≠ "java/lang/invoke/MethodHandle" ∧ yX6_faultOfCell.cls ≠ "java/lang/invoke/VarHandle" ∧ (parseMethodDescriptor yX6_faultOfCell.desc).map (fun d => d.parameters.length) = some 2 := by decide +kernel
set_option maxHeartbeats 4000000 in
set_option maxRecDepth 100000 in
theorem kX6_faultOfCell (l : Launch) (D : va_G) (g : zG) (ad : Nat → Nat) (σ : zSt) (x1 : Int32) (x2 : Int32) (o : Int32) (h : fX6_faultOfCell σ x1 x2 = some o) : zMi l D g 0 ad yX6_faultOfCell (Cond.code yX6_faultOfCell cX6_faultOfCell 3 (some .int) :: zws) (zRm 0) [.ref (ad 1), .int x1, .int x2] σ o σ := by
  refine z_enter_i (by decide) (Nat.le_of_ble_eq_true rfl) ?_
  intro p e s m below meth c A ls Q C hw hl hret
  obtain ⟨hx, hb, hml, hown, hts, hK, hA⟩ := id C
  have hown : s.vm.findClass RX6 = some m.cls := hown
  have C : zCx p c cX6_faultOfCell s _ RX6 m 3 A s.heap D g := C
  have hl : lv_has ls 3 [(0, .ref (ad 1)), (1, .int x1), (2, .int x2)] := hl
  unfold fX6_faultOfCell at h
  refine lv_aload_n hx hb dX6_faultOfCell_0 rfl (lv_at hl 0 rfl) ?_
  refine z_getc hx hb hts zin_X6 hown hK hw zF0_1_2 (hts _ zw_89) dX6_faultOfCell_1 ?_
  refine lv_iload_n hx hb dX6_faultOfCell_4 rfl (lv_at hl 1 rfl) ?_
  obtain ⟨v1, e2, h⟩ := zbind h
  refine z_iald hx hb hK hw e2 dX6_faultOfCell_5 ?_
  refine lv_iconst (v := (-1)) hx hb dX6_faultOfCell_6 (by decide) ?_
  refine lv_icmp_ne (tgt := 12) hx hb dX6_faultOfCell_7 (by decide) (fun t3 => ?_) (fun t3 => ?_)
  · rw [if_neg t3] at h
    refine lv_iload_n hx hb dX6_faultOfCell_12 rfl (lv_at hl 2 rfl) ?_
    refine lv_if_lt (tgt := 26) hx hb dX6_faultOfCell_13 (by decide) (fun t4 => ?_) (fun t4 => ?_)
    · rw [if_pos t4] at h
      refine lv_iconst (v := 3) hx hb dX6_faultOfCell_26 (by decide) ?_
      refine lv_goto (tgt := 31) hx hb dX6_faultOfCell_27 (by decide) ?_
      obtain rfl := Option.some.inj h
      exact hret _ _ _ _ hw rfl dX6_faultOfCell_31
    · rw [if_neg t4] at h
      refine lv_iload_n hx hb dX6_faultOfCell_16 rfl (lv_at hl 2 rfl) ?_
      refine lv_aload_n hx hb dX6_faultOfCell_17 rfl (lv_at hl 0 rfl) ?_
      refine z_getc hx hb hts zin_X6 hown hK hw zF0_1_2 (hts _ zw_89) dX6_faultOfCell_18 ?_
      refine lv_iload_n hx hb dX6_faultOfCell_21 rfl (lv_at hl 1 rfl) ?_
      obtain ⟨v5, e6, h⟩ := zbind h
      refine z_iald hx hb hK hw e6 dX6_faultOfCell_22 ?_
      refine lv_icmp_lt (tgt := 30) hx hb dX6_faultOfCell_23 (by decide) (fun t7 => ?_) (fun t7 => ?_)
      · rw [if_pos t7] at h
        refine lv_iconst (v := 0) hx hb dX6_faultOfCell_30 (by decide) ?_
        obtain rfl := Option.some.inj h
        exact hret _ _ _ _ hw rfl dX6_faultOfCell_31
      · rw [if_neg t7] at h
        refine lv_iconst (v := 3) hx hb dX6_faultOfCell_26 (by decide) ?_
        refine lv_goto (tgt := 31) hx hb dX6_faultOfCell_27 (by decide) ?_
        obtain rfl := Option.some.inj h
        exact hret _ _ _ _ hw rfl dX6_faultOfCell_31
  · rw [if_pos t3] at h
    refine lv_iconst (v := 1) hx hb dX6_faultOfCell_10 (by decide) ?_
    obtain rfl := Option.some.inj h
    exact hret _ _ _ _ hw rfl dX6_faultOfCell_11
theorem hX6_areThere : yX6_areThere.cls = RX6 ∧ yX6_areThere.cls ≠ "java/lang/invoke/MethodHandle" ∧ yX6_areThere.cls ≠ "java/lang/invoke/VarHandle" ∧ (parseMethodDescriptor yX6_areThere.desc).map (fun d => d.parameters.length) = some 3 := by decide +kernel
set_option maxHeartbeats 4000000 in
set_option maxRecDepth 100000 in
theorem kX6_areThere (l : Launch) (D : va_G) (g : zG) (ad : Nat → Nat) (σ : zSt) (x1 : Int32) (x2 : Int32) (x3 : Int32) (o : Int32) (h : fX6_areThere σ x1 x2 x3 = some o) : zMi l D g 0 ad yX6_areThere (Cond.code yX6_areThere cX6_areThere 4 (some .boolean) :: zws) (zRm 0) [.ref (ad 1), .int x1, .int x2, .int x3] σ o σ := by
  refine z_enter_i (by decide) (Nat.le_of_ble_eq_true rfl) ?_
  intro p e s m below meth c A ls Q C hw hl hret
  obtain ⟨hx, hb, hml, hown, hts, hK, hA⟩ := id C
  have hown : s.vm.findClass RX6 = some m.cls := hown
  have C : zCx p c cX6_areThere s _ RX6 m 4 A s.heap D g := C
  have hl : lv_has ls 4 [(0, .ref (ad 1)), (1, .int x1), (2, .int x2), (3, .int x3)] := hl
  unfold fX6_areThere at h
  refine lv_iload_n hx hb dX6_areThere_0 rfl (lv_at hl 2 rfl) ?_
  refine lv_if_lt (tgt := 20) hx hb dX6_areThere_1 (by decide) (fun t1 => ?_) (fun t1 => ?_)
  · rw [if_pos t1] at h
    refine lv_iconst (v := 0) hx hb dX6_areThere_20 (by decide) ?_
    obtain rfl := Option.some.inj h
    exact hret _ _ _ _ hw zb0 dX6_areThere_21
  · rw [if_neg t1] at h
    refine lv_iload_n hx hb dX6_areThere_4 rfl (lv_at hl 2 rfl) ?_
    refine lv_aload_n hx hb dX6_areThere_5 rfl (lv_at hl 0 rfl) ?_
    refine z_getc hx hb hts zin_X6 hown hK hw zF0_1_2 (hts _ zw_89) dX6_areThere_6 ?_
    refine lv_iload_n hx hb dX6_areThere_9 rfl (lv_at hl 1 rfl) ?_
    obtain ⟨v2, e3, h⟩ := zbind h
    refine z_iald hx hb hK hw e3 dX6_areThere_10 ?_
    refine lv_iload_n hx hb dX6_areThere_11 rfl (lv_at hl 3 rfl) ?_
    refine lv_isub hx hb dX6_areThere_12 ?_
    refine lv_icmp_gt (tgt := 20) hx hb dX6_areThere_13 (by decide) (fun t4 => ?_) (fun t4 => ?_)
    · rw [if_pos t4] at h
      refine lv_iconst (v := 0) hx hb dX6_areThere_20 (by decide) ?_
      obtain rfl := Option.some.inj h
      exact hret _ _ _ _ hw zb0 dX6_areThere_21
    · rw [if_neg t4] at h
      refine lv_iconst (v := 1) hx hb dX6_areThere_16 (by decide) ?_
      refine lv_goto (tgt := 21) hx hb dX6_areThere_17 (by decide) ?_
      obtain rfl := Option.some.inj h
      exact hret _ _ _ _ hw zb1 dX6_areThere_21
theorem hX6_faultOfCells : yX6_faultOfCells.cls = RX6 ∧ yX6_faultOfCells.cls ≠ "java/lang/invoke/MethodHandle" ∧ yX6_faultOfCells.cls ≠ "java/lang/invoke/VarHandle" ∧ (parseMethodDescriptor yX6_faultOfCells.desc).map (fun d => d.parameters.length) = some 4 := by decide +kernel
set_option maxHeartbeats 4000000 in
set_option maxRecDepth 100000 in
theorem kX6_faultOfCells (l : Launch) (D : va_G) (g : zG) (ad : Nat → Nat) (σ : zSt) (x1 : Int32) (x2 : Int32) (x3 : Int32) (x4 : Int32) (o : Int32) (h : fX6_faultOfCells σ x1 x2 x3 x4 = some o) : zMi l D g 0 ad yX6_faultOfCells (Cond.code yX6_faultOfCells cX6_faultOfCells 5 (some .int) :: zws) (zRm 1) [.ref (ad 1), .int x1, .int x2, .int x3, .int x4] σ o σ := by
  refine z_enter_i (by decide) (Nat.le_of_ble_eq_true rfl) ?_
  intro p e s m below meth c A ls Q C hw hl hret
  obtain ⟨hx, hb, hml, hown, hts, hK, hA⟩ := id C
  have hown : s.vm.findClass RX6 = some m.cls := hown
  have C : zCx p c cX6_faultOfCells s _ RX6 m 5 A s.heap D g := C
  have hl : lv_has ls 5 [(0, .ref (ad 1)), (1, .int x1), (2, .int x2), (3, .int x3), (4, .int x4)] := hl
  unfold fX6_faultOfCells at h
  refine lv_aload_n hx hb dX6_faultOfCells_0 rfl (lv_at hl 0 rfl) ?_
  refine lv_iload_n hx hb dX6_faultOfCells_1 rfl (lv_at hl 1 rfl) ?_
  refine lv_iload_n hx hb dX6_faultOfCells_2 rfl (lv_at hl 2 rfl) ?_
  obtain ⟨r1, e2, h⟩ := zbind h
  refine z_cVi (As := [.int x1, .int x2]) (rest := []) ⟨hx, hb, hml, hown, hts⟩ hK hw hA (kX6_isOtherSort l D g ad σ x1 x2 r1 e2) (zcwV 2 hts zgoodIn zw_349 zw_350 zw_351 zw_53 zw_352 rfl rfl hX6_isOtherSort ⟨Nat.le_of_ble_eq_true rfl, Nat.le_of_ble_eq_true rfl⟩) zO0_1 rfl hl.1 rfl (Nat.le_of_ble_eq_true rfl) dX6_faultOfCells_3 ⟨Nat.zero_le _, Nat.zero_le _⟩ (fun H locs hw => ?_)
  refine lv_if_eq (tgt := 11) hx hb dX6_faultOfCells_6 (by decide) (fun t3 => ?_) (fun t3 => ?_)
  · rw [if_pos t3] at h
    refine lv_aload_n hx hb dX6_faultOfCells_11 rfl (lv_at hl 0 rfl) ?_
    refine z_getc hx hb hts zin_X6 hown hK hw zF0_1_2 (hts _ zw_89) dX6_faultOfCells_12 ?_
    refine lv_iload_n hx hb dX6_faultOfCells_15 rfl (lv_at hl 1 rfl) ?_
    obtain ⟨v4, e5, h⟩ := zbind h
    refine z_iald hx hb hK hw e5 dX6_faultOfCells_16 ?_
    refine lv_iconst (v := (-1)) hx hb dX6_faultOfCells_17 (by decide) ?_
    refine lv_icmp_ne (tgt := 23) hx hb dX6_faultOfCells_18 (by decide) (fun t6 => ?_) (fun t6 => ?_)
    · rw [if_neg t6] at h
      refine lv_iload hx hb dX6_faultOfCells_23 (lv_at hl 4 rfl) ?_
      refine lv_if_ge (tgt := 30) hx hb dX6_faultOfCells_25 (by decide) (fun t7 => ?_) (fun t7 => ?_)
      · rw [if_pos t7] at h
        refine lv_aload_n hx hb dX6_faultOfCells_30 rfl (lv_at hl 0 rfl) ?_
        refine lv_iload_n hx hb dX6_faultOfCells_31 rfl (lv_at hl 1 rfl) ?_
        refine lv_iload_n hx hb dX6_faultOfCells_32 rfl (lv_at hl 3 rfl) ?_
        refine lv_iload hx hb dX6_faultOfCells_33 (lv_at hl 4 rfl) ?_
        obtain ⟨r8, e9, h⟩ := zbind h
        refine z_cVi (As := [.int x1, .int x3, .int x4]) (rest := []) ⟨hx, hb, hml, hown, hts⟩ hK hw hA (kX6_areThere l D g ad σ x1 x3 x4 r8 e9) (zcwV 3 hts zgoodIn zw_353 zw_355 zw_1 zw_53 zw_356 rfl rfl hX6_areThere ⟨Nat.le_of_ble_eq_true rfl, Nat.le_of_ble_eq_true rfl⟩) zO0_1 rfl hl.1 rfl (Nat.le_of_ble_eq_true rfl) dX6_faultOfCells_35 ⟨Nat.zero_le _, Nat.zero_le _⟩ (fun H locs hw => ?_)
        refine lv_if_eq (tgt := 45) hx hb dX6_faultOfCells_38 (by decide) (fun t10 => ?_) (fun t10 => ?_)
        · rw [if_pos t10] at h
          refine lv_iconst (v := 3) hx hb dX6_faultOfCells_45 (by decide) ?_
          obtain rfl := Option.some.inj h
          exact hret _ _ _ _ hw rfl dX6_faultOfCells_46
        · rw [if_neg t10] at h
          refine lv_iconst (v := 0) hx hb dX6_faultOfCells_41 (by decide) ?_
          refine lv_goto (tgt := 46) hx hb dX6_faultOfCells_42 (by decide) ?_
          obtain rfl := Option.some.inj h
          exact hret _ _ _ _ hw rfl dX6_faultOfCells_46
      · rw [if_neg t7] at h
        refine lv_iconst (v := 4) hx hb dX6_faultOfCells_28 (by decide) ?_
        obtain rfl := Option.some.inj h
        exact hret _ _ _ _ hw rfl dX6_faultOfCells_29
    · rw [if_pos t6] at h
      refine lv_iconst (v := 1) hx hb dX6_faultOfCells_21 (by decide) ?_
      obtain rfl := Option.some.inj h
      exact hret _ _ _ _ hw rfl dX6_faultOfCells_22
  · rw [if_neg t3] at h
    refine lv_iconst (v := 2) hx hb dX6_faultOfCells_9 (by decide) ?_
    obtain rfl := Option.some.inj h
    exact hret _ _ _ _ hw rfl dX6_faultOfCells_10
theorem hX6_faultOfCopy : yX6_faultOfCopy.cls = RX6 ∧ yX6_faultOfCopy.cls ≠ "java/lang/invoke/MethodHandle" ∧ yX6_faultOfCopy.cls ≠ "java/lang/invoke/VarHandle" ∧ (parseMethodDescriptor yX6_faultOfCopy.desc).map (fun d => d.parameters.length) = some 5 := by decide +kernel
set_option maxHeartbeats 4000000 in
set_option maxRecDepth 100000 in
theorem kX6_faultOfCopy (l : Launch) (D : va_G) (g : zG) (ad : Nat → Nat) (σ : zSt) (x1 : Int32) (x2 : Int32) (x3 : Int32) (x4 : Int32) (x5 : Int32) (o : Int32) (h : fX6_faultOfCopy σ x1 x2 x3 x4 x5 = some o) : zMi l D g 0 ad yX6_faultOfCopy (Cond.code yX6_faultOfCopy cX6_faultOfCopy 6 (some .int) :: zws) (zRm 1) [.ref (ad 1), .int x1, .int x2, .int x3, .int x4, .int x5] σ o σ := by
  refine z_enter_i (by decide) (Nat.le_of_ble_eq_true rfl) ?_
  intro p e s m below meth c A ls Q C hw hl hret
  obtain ⟨hx, hb, hml, hown, hts, hK, hA⟩ := id C
  have hown : s.vm.findClass RX6 = some m.cls := hown
  have C : zCx p c cX6_faultOfCopy s _ RX6 m 6 A s.heap D g := C
  have hl : lv_has ls 6 [(0, .ref (ad 1)), (1, .int x1), (2, .int x2), (3, .int x3), (4, .int x4), (5, .int x5)] := hl
  unfold fX6_faultOfCopy at h
  refine lv_aload_n hx hb dX6_faultOfCopy_0 rfl (lv_at hl 0 rfl) ?_
  refine z_getc hx hb hts zin_X6 hown hK hw zF0_1_2 (hts _ zw_89) dX6_faultOfCopy_1 ?_
  refine lv_iload_n hx hb dX6_faultOfCopy_4 rfl (lv_at hl 1 rfl) ?_
  obtain ⟨v1, e2, h⟩ := zbind h
  refine z_iald hx hb hK hw e2 dX6_faultOfCopy_5 ?_
  refine lv_iconst (v := (-1)) hx hb dX6_faultOfCopy_6 (by decide) ?_
  refine lv_icmp_eq (tgt := 20) hx hb dX6_faultOfCopy_7 (by decide) (fun t3 => ?_) (fun t3 => ?_)
  · rw [if_pos t3] at h
    refine lv_iconst (v := 1) hx hb dX6_faultOfCopy_20 (by decide) ?_
    obtain rfl := Option.some.inj h
    exact hret _ _ _ _ hw rfl dX6_faultOfCopy_21
  · rw [if_neg t3] at h
    refine lv_aload_n hx hb dX6_faultOfCopy_10 rfl (lv_at hl 0 rfl) ?_
    refine z_getc hx hb hts zin_X6 hown hK hw zF0_1_2 (hts _ zw_89) dX6_faultOfCopy_11 ?_
    refine lv_iload_n hx hb dX6_faultOfCopy_14 rfl (lv_at hl 3 rfl) ?_
    obtain ⟨v4, e5, h⟩ := zbind h
    refine z_iald hx hb hK hw e5 dX6_faultOfCopy_15 ?_
    refine lv_iconst (v := (-1)) hx hb dX6_faultOfCopy_16 (by decide) ?_
    refine lv_icmp_ne (tgt := 22) hx hb dX6_faultOfCopy_17 (by decide) (fun t6 => ?_) (fun t6 => ?_)
    · rw [if_neg t6] at h
      refine lv_aload_n hx hb dX6_faultOfCopy_22 rfl (lv_at hl 0 rfl) ?_
      refine z_getc hx hb hts zin_X6 hown hK hw zF0_1_1 (hts _ zw_88) dX6_faultOfCopy_23 ?_
      refine lv_iload_n hx hb dX6_faultOfCopy_26 rfl (lv_at hl 1 rfl) ?_
      obtain ⟨v7, e8, h⟩ := zbind h
      refine z_iald hx hb hK hw e8 dX6_faultOfCopy_27 ?_
      refine lv_aload_n hx hb dX6_faultOfCopy_28 rfl (lv_at hl 0 rfl) ?_
      refine z_getc hx hb hts zin_X6 hown hK hw zF0_1_1 (hts _ zw_88) dX6_faultOfCopy_29 ?_
      refine lv_iload_n hx hb dX6_faultOfCopy_32 rfl (lv_at hl 3 rfl) ?_
      obtain ⟨v9, e10, h⟩ := zbind h
      refine z_iald hx hb hK hw e10 dX6_faultOfCopy_33 ?_
      refine lv_icmp_eq (tgt := 39) hx hb dX6_faultOfCopy_34 (by decide) (fun t11 => ?_) (fun t11 => ?_)
      · rw [if_pos t11] at h
        refine lv_iload hx hb dX6_faultOfCopy_39 (lv_at hl 5 rfl) ?_
        refine lv_if_lt (tgt := 71) hx hb dX6_faultOfCopy_41 (by decide) (fun t12 => ?_) (fun t12 => ?_)
        · rw [if_pos t12] at h
          refine lv_iconst (v := 3) hx hb dX6_faultOfCopy_71 (by decide) ?_
          obtain rfl := Option.some.inj h
          exact hret _ _ _ _ hw rfl dX6_faultOfCopy_72
        · rw [if_neg t12] at h
          refine lv_aload_n hx hb dX6_faultOfCopy_44 rfl (lv_at hl 0 rfl) ?_
          refine lv_iload_n hx hb dX6_faultOfCopy_45 rfl (lv_at hl 1 rfl) ?_
          refine lv_iload_n hx hb dX6_faultOfCopy_46 rfl (lv_at hl 2 rfl) ?_
          refine lv_iload hx hb dX6_faultOfCopy_47 (lv_at hl 5 rfl) ?_
          obtain ⟨r13, e14, h⟩ := zbind h
          refine z_cVi (As := [.int x1, .int x2, .int x5]) (rest := []) ⟨hx, hb, hml, hown, hts⟩ hK hw hA (kX6_areThere l D g ad σ x1 x2 x5 r13 e14) (zcwV 3 hts zgoodIn zw_353 zw_355 zw_1 zw_53 zw_356 rfl rfl hX6_areThere ⟨Nat.le_of_ble_eq_true rfl, Nat.le_of_ble_eq_true rfl⟩) zO0_1 rfl hl.1 rfl (Nat.le_of_ble_eq_true rfl) dX6_faultOfCopy_49 ⟨Nat.zero_le _, Nat.zero_le _⟩ (fun H locs hw => ?_)
          refine lv_if_eq (tgt := 71) hx hb dX6_faultOfCopy_52 (by decide) (fun t15 => ?_) (fun t15 => ?_)
          · rw [if_pos t15] at h
            refine lv_iconst (v := 3) hx hb dX6_faultOfCopy_71 (by decide) ?_
            obtain rfl := Option.some.inj h
            exact hret _ _ _ _ hw rfl dX6_faultOfCopy_72
          · rw [if_neg t15] at h
            refine lv_aload_n hx hb dX6_faultOfCopy_55 rfl (lv_at hl 0 rfl) ?_
            refine lv_iload_n hx hb dX6_faultOfCopy_56 rfl (lv_at hl 3 rfl) ?_
            refine lv_iload hx hb dX6_faultOfCopy_57 (lv_at hl 4 rfl) ?_
            refine lv_iload hx hb dX6_faultOfCopy_59 (lv_at hl 5 rfl) ?_
            obtain ⟨r16, e17, h⟩ := zbind h
            refine z_cVi (As := [.int x3, .int x4, .int x5]) (rest := []) ⟨hx, hb, hml, hown, hts⟩ hK hw hA (kX6_areThere l D g ad σ x3 x4 x5 r16 e17) (zcwV 3 hts zgoodIn zw_353 zw_355 zw_1 zw_53 zw_356 rfl rfl hX6_areThere ⟨Nat.le_of_ble_eq_true rfl, Nat.le_of_ble_eq_true rfl⟩) zO0_1 rfl hl.1 rfl (Nat.le_of_ble_eq_true rfl) dX6_faultOfCopy_61 ⟨Nat.zero_le _, Nat.zero_le _⟩ (fun H locs hw => ?_)
            refine lv_if_eq (tgt := 71) hx hb dX6_faultOfCopy_64 (by decide) (fun t18 => ?_) (fun t18 => ?_)
            · rw [if_pos t18] at h
              refine lv_iconst (v := 3) hx hb dX6_faultOfCopy_71 (by decide) ?_
              obtain rfl := Option.some.inj h
              exact hret _ _ _ _ hw rfl dX6_faultOfCopy_72
            · rw [if_neg t18] at h
              refine lv_iconst (v := 0) hx hb dX6_faultOfCopy_67 (by decide) ?_
              refine lv_goto (tgt := 72) hx hb dX6_faultOfCopy_68 (by decide) ?_
              obtain rfl := Option.some.inj h
              exact hret _ _ _ _ hw rfl dX6_faultOfCopy_72
      · rw [if_neg t11] at h
        refine lv_iconst (v := 2) hx hb dX6_faultOfCopy_37 (by decide) ?_
        obtain rfl := Option.some.inj h
        exact hret _ _ _ _ hw rfl dX6_faultOfCopy_38
    · rw [if_pos t6] at h
      refine lv_iconst (v := 1) hx hb dX6_faultOfCopy_20 (by decide) ?_
      obtain rfl := Option.some.inj h
      exact hret _ _ _ _ hw rfl dX6_faultOfCopy_21
theorem hX7_stateOf : yX7_stateOf.cls ≠ "java/lang/invoke/MethodHandle" ∧ yX7_stateOf.cls ≠ "java/lang/invoke/VarHandle" ∧ (parseMethodDescriptor yX7_stateOf.desc).map (fun d => d.parameters.length) = some 3 := by decide +kernel
set_option maxHeartbeats 4000000 in
set_option maxRecDepth 100000 in
theorem kX7_stateOf (l : Launch) (D : va_G) (g : zG) (ad : Nat → Nat) (σ : zSt) (x0 : Int32) (x1 : Int32) (x2 : Int32) (o : Int32) (h : fX7_stateOf x0 x1 x2 = o) : zMi l D g 0 ad yX7_stateOf (Cond.code yX7_stateOf cX7_stateOf 3 (some .int) :: zws) (zRm 0) [.int x0, .int x1, .int x2] σ o σ := by
  refine z_enter_i (by decide) (Nat.le_of_ble_eq_true rfl) ?_
  intro p e s m below meth c A ls Q C hw hl hret
  obtain ⟨hx, hb, hml, hown, hts, hK, hA⟩ := id C
  have hown : s.vm.findClass RX7 = some m.cls := hown
  have C : zCx p c cX7_stateOf s _ RX7 m 3 A s.heap D g := C
  have hl : lv_has ls 3 [(0, .int x0), (1, .int x1), (2, .int x2)] := hl
  unfold fX7_stateOf at h
  refine lv_iload_n hx hb dX7_stateOf_0 rfl (lv_at hl 0 rfl) ?_
  refine lv_bipush (v := 10) hx hb dX7_stateOf_1 (by decide) ?_
  refine lv_imul hx hb dX7_stateOf_3 ?_
  refine lv_iload_n hx hb dX7_stateOf_4 rfl (lv_at hl 1 rfl) ?_
  refine lv_iadd hx hb dX7_stateOf_5 ?_
  refine lv_iconst (v := 2) hx hb dX7_stateOf_6 (by decide) ?_
  refine lv_imul hx hb dX7_stateOf_7 ?_
  refine lv_iload_n hx hb dX7_stateOf_8 rfl (lv_at hl 2 rfl) ?_
  refine lv_iadd hx hb dX7_stateOf_9 ?_
  subst h
  exact hret _ _ _ _ hw rfl dX7_stateOf_10
theorem hX7_firstOf : yX7_firstOf.cls ≠ "java/lang/invoke/MethodHandle" ∧ yX7_firstOf.cls ≠ "java/lang/invoke/VarHandle" ∧ (parseMethodDescriptor yX7_firstOf.desc).map (fun d => d.parameters.length) = some 1 := by decide +kernel
set_option maxHeartbeats 4000000 in
set_option maxRecDepth 100000 in
theorem kX7_firstOf (l : Launch) (D : va_G) (g : zG) (ad : Nat → Nat) (σ : zSt) (x0 : Int32) (o : Int32) (h : fX7_firstOf x0 = o) : zMi l D g 0 ad yX7_firstOf (Cond.code yX7_firstOf cX7_firstOf 1 (some .int) :: zws) (zRm 0) [.int x0] σ o σ := by
  refine z_enter_i (by decide) (Nat.le_of_ble_eq_true rfl) ?_
  intro p e s m below meth c A ls Q C hw hl hret
  obtain ⟨hx, hb, hml, hown, hts, hK, hA⟩ := id C
  have hown : s.vm.findClass RX7 = some m.cls := hown
  have C : zCx p c cX7_firstOf s _ RX7 m 1 A s.heap D g := C
  have hl : lv_has ls 1 [(0, .int x0)] := hl
  unfold fX7_firstOf at h
  refine lv_iload_n hx hb dX7_firstOf_0 rfl (lv_at hl 0 rfl) ?_
  refine lv_bipush (v := 20) hx hb dX7_firstOf_1 (by decide) ?_
  refine lv_idiv hx hb dX7_firstOf_3 (by decide) ?_
  subst h
  exact hret _ _ _ _ hw rfl dX7_firstOf_4
theorem hX7_lastOf : yX7_lastOf.cls ≠ "java/lang/invoke/MethodHandle" ∧ yX7_lastOf.cls ≠ "java/lang/invoke/VarHandle" ∧ (parseMethodDescriptor yX7_lastOf.desc).map (fun d => d.parameters.length) = some 1 := by decide +kernel
set_option maxHeartbeats 4000000 in
set_option maxRecDepth 100000 in
theorem kX7_lastOf (l : Launch) (D : va_G) (g : zG) (ad : Nat → Nat) (σ : zSt) (x0 : Int32) (o : Int32) (h : fX7_lastOf x0 = o) : zMi l D g 0 ad yX7_lastOf (Cond.code yX7_lastOf cX7_lastOf 1 (some .int) :: zws) (zRm 0) [.int x0] σ o σ := by
  refine z_enter_i (by decide) (Nat.le_of_ble_eq_true rfl) ?_
  intro p e s m below meth c A ls Q C hw hl hret
  obtain ⟨hx, hb, hml, hown, hts, hK, hA⟩ := id C
  have hown : s.vm.findClass RX7 = some m.cls := hown
  have C : zCx p c cX7_lastOf s _ RX7 m 1 A s.heap D g := C
  have hl : lv_has ls 1 [(0, .int x0)] := hl
  unfold fX7_lastOf at h
  refine lv_iload_n hx hb dX7_lastOf_0 rfl (lv_at hl 0 rfl) ?_
  refine lv_iconst (v := 2) hx hb dX7_lastOf_1 (by decide) ?_
  refine lv_irem hx hb dX7_lastOf_2 (by decide) ?_
  subst h
  exact hret _ _ _ _ hw rfl dX7_lastOf_3
theorem hX7_secondOf : yX7_secondOf.cls ≠ "java/lang/invoke/MethodHandle" ∧ yX7_secondOf.cls ≠ "java/lang/invoke/VarHandle" ∧ (parseMethodDescriptor yX7_secondOf.desc).map (fun d => d.parameters.length) = some 1 := by decide +kernel
set_option maxHeartbeats 4000000 in
set_option maxRecDepth 100000 in
theorem kX7_secondOf (l : Launch) (D : va_G) (g : zG) (ad : Nat → Nat) (σ : zSt) (x0 : Int32) (o : Int32) (h : fX7_secondOf x0 = o) : zMi l D g 0 ad yX7_secondOf (Cond.code yX7_secondOf cX7_secondOf 1 (some .int) :: zws) (zRm 0) [.int x0] σ o σ := by
  refine z_enter_i (by decide) (Nat.le_of_ble_eq_true rfl) ?_
  intro p e s m below meth c A ls Q C hw hl hret
  obtain ⟨hx, hb, hml, hown, hts, hK, hA⟩ := id C
  have hown : s.vm.findClass RX7 = some m.cls := hown
  have C : zCx p c cX7_secondOf s _ RX7 m 1 A s.heap D g := C
  have hl : lv_has ls 1 [(0, .int x0)] := hl
  unfold fX7_secondOf at h
  refine lv_iload_n hx hb dX7_secondOf_0 rfl (lv_at hl 0 rfl) ?_
  refine lv_iconst (v := 2) hx hb dX7_secondOf_1 (by decide) ?_
  refine lv_idiv hx hb dX7_secondOf_2 (by decide) ?_
  refine lv_bipush (v := 10) hx hb dX7_secondOf_3 (by decide) ?_
  refine lv_irem hx hb dX7_secondOf_5 (by decide) ?_
  subst h
  exact hret _ _ _ _ hw rfl dX7_secondOf_6
theorem hX7_workFirst : yX7_workFirst.cls = RX7 ∧ yX7_workFirst.cls ≠ "java/lang/invoke/MethodHandle" ∧ yX7_workFirst.cls ≠ "java/lang/invoke/VarHandle" ∧ (parseMethodDescriptor yX7_workFirst.desc).map (fun d => d.parameters.length) = some 2 := by decide +kernel
set_option maxHeartbeats 4000000 in
set_option maxRecDepth 100000 in
theorem kX7_workFirst (l : Launch) (D : va_G) (g : zG) (ad : Nat → Nat) (σ : zSt) (x1 : Int32) (x2 : Int32) (o : zSt) (h : fX7_workFirst σ x1 x2 = some o) : zMv l D g 0 ad yX7_workFirst (Cond.code yX7_workFirst cX7_workFirst 7 (none : Option Jvm.ClassFile.FieldType) :: zws) (zRm 1) [.ref (ad 9), .int x1, .int x2] σ o := by
  refine z_enter_v (by decide) (Nat.le_of_ble_eq_true rfl) ?_
  intro p e s m below meth c A ls Q C hw hl hret
  obtain ⟨hx, hb, hml, hown, hts, hK, hA⟩ := id C
  have hown : s.vm.findClass RX7 = some m.cls := hown
  have C : zCx p c cX7_workFirst s _ RX7 m 7 A s.heap D g := C
  have hl : lv_has ls 7 [(0, .ref (ad 9)), (1, .int x1), (2, .int x2)] := hl
  unfold fX7_workFirst at h
  refine lv_iload_n hx hb dX7_workFirst_0 rfl (lv_at hl 1 rfl) ?_
  refine z_cSi (As := [.int x1]) (rest := []) ⟨hx, hb, hml, hown, hts⟩ hK hw hA (kX7_firstOf l D g ad σ x1 _ rfl) (zcwS 1 hts zgoodIn zw_699 zw_700 zw_62 zw_701 rfl rfl hX7_firstOf ⟨Nat.le_of_ble_eq_true rfl, Nat.le_of_ble_eq_true rfl⟩) rfl hl.1 rfl (Nat.le_of_ble_eq_true rfl) dX7_workFirst_1 ⟨Nat.zero_le _, Nat.zero_le _⟩ (fun H locs hw => ?_)
  refine lv_istore_n (lv' := [(3, .int (fX7_firstOf x1)), (0, .ref (ad 9)), (1, .int x1), (2, .int x2)]) hx hb dX7_workFirst_4 rfl hl (by decide) rfl (fun ls hl => ?_)
  refine lv_iload_n hx hb dX7_workFirst_5 rfl (lv_at hl 0 rfl) ?_
  refine lv_iload_n hx hb dX7_workFirst_6 rfl (lv_at hl 2 rfl) ?_
  refine z_cSi (As := [.int x1]) (rest := [.int (fX7_firstOf x1)]) ⟨hx, hb, hml, hown, hts⟩ hK hw hA (kX7_lastOf l D g ad σ x1 _ rfl) (zcwS 1 hts zgoodIn zw_702 zw_703 zw_62 zw_704 rfl rfl hX7_lastOf ⟨Nat.le_of_ble_eq_true rfl, Nat.le_of_ble_eq_true rfl⟩) rfl hl.1 rfl (Nat.le_of_ble_eq_true rfl) dX7_workFirst_7 ⟨Nat.zero_le _, Nat.zero_le _⟩ (fun H locs hw => ?_)
  refine lv_if_ne (tgt := 17) hx hb dX7_workFirst_10 (by decide) (fun t1 => ?_) (fun t1 => ?_)
  · rw [if_neg t1] at h
    refine lv_iload_n hx hb dX7_workFirst_17 rfl (lv_at hl 3 rfl) ?_
    refine lv_iadd hx hb dX7_workFirst_18 ?_
    refine lv_i2l hx hb dX7_workFirst_19 rfl ?_
    refine lv_lstore (lv' := [(4, .long (((fX7_firstOf x1) + x2).toInt64)), (3, .int (fX7_firstOf x1)), (0, .ref (ad 9)), (1, .int x1), (2, .int x2)]) hx hb dX7_workFirst_20 hl (by decide) rfl (fun ls hl => ?_)
    refine lv_bipush (v := 9) hx hb dX7_workFirst_22 (by decide) ?_
    refine lv_iload_n hx hb dX7_workFirst_24 rfl (lv_at hl 1 rfl) ?_
    refine lv_iconst (v := 1) hx hb dX7_workFirst_25 (by decide) ?_
    refine lv_iadd hx hb dX7_workFirst_26 ?_
    refine va_mmin hx hb (hml.trans hl.1.symm) hown (hts _ zw_705) (hts _ zw_386) (hts _ zw_65) (hts _ zw_387) (Nat.le_of_ble_eq_true rfl) (Nat.le_of_ble_eq_true rfl) (Nat.zero_le _) (Nat.zero_le _) dX7_workFirst_27 ?_
    refine lv_iconst (v := 0) hx hb dX7_workFirst_30 (by decide) ?_
    refine lv_iload_n hx hb dX7_workFirst_31 rfl (lv_at hl 3 rfl) ?_
    refine z_cSi (As := [.int x1]) (rest := [.int (0 : Int32), .int (if (fX7_firstOf x1) + (1 : Int32) < (9 : Int32) then (fX7_firstOf x1) + (1 : Int32) else (9 : Int32))]) ⟨hx, hb, hml, hown, hts⟩ hK hw hA (kX7_secondOf l D g ad σ x1 _ rfl) (zcwS 1 hts zgoodIn zw_706 zw_707 zw_62 zw_708 rfl rfl hX7_secondOf ⟨Nat.le_of_ble_eq_true rfl, Nat.le_of_ble_eq_true rfl⟩) rfl hl.1 rfl (Nat.le_of_ble_eq_true rfl) dX7_workFirst_32 ⟨Nat.zero_le _, Nat.zero_le _⟩ (fun H locs hw => ?_)
    refine lv_iconst (v := 1) hx hb dX7_workFirst_35 (by decide) ?_
    refine lv_isub hx hb dX7_workFirst_36 ?_
    refine va_mmax hx hb (hml.trans hl.1.symm) hown (hts _ zw_709) (hts _ zw_710) (hts _ zw_65) (hts _ zw_711) (Nat.le_of_ble_eq_true rfl) (Nat.le_of_ble_eq_true rfl) (Nat.zero_le _) (Nat.zero_le _) dX7_workFirst_37 ?_
    refine lv_iconst (v := 0) hx hb dX7_workFirst_40 (by decide) ?_
    refine z_cSi (As := [.int (if (fX7_firstOf x1) + (1 : Int32) < (9 : Int32) then (fX7_firstOf x1) + (1 : Int32) else (9 : Int32)), .int (if (0 : Int32) < (fX7_secondOf x1) - (1 : Int32) then (fX7_secondOf x1) - (1 : Int32) else (0 : Int32)), .int (0 : Int32)]) (rest := []) ⟨hx, hb, hml, hown, hts⟩ hK hw hA (kX7_stateOf l D g ad σ (if (fX7_firstOf x1) + (1 : Int32) < (9 : Int32) then (fX7_firstOf x1) + (1 : Int32) else (9 : Int32)) (if (0 : Int32) < (fX7_secondOf x1) - (1 : Int32) then (fX7_secondOf x1) - (1 : Int32) else (0 : Int32)) (0 : Int32) _ rfl) (zcwS 3 hts zgoodIn zw_688 zw_689 zw_62 zw_690 rfl rfl hX7_stateOf ⟨Nat.le_of_ble_eq_true rfl, Nat.le_of_ble_eq_true rfl⟩) rfl hl.1 rfl (Nat.le_of_ble_eq_true rfl) dX7_workFirst_41 ⟨Nat.zero_le _, Nat.zero_le _⟩ (fun H locs hw => ?_)
    refine lv_istore (lv' := [(6, .int (fX7_stateOf (if (fX7_firstOf x1) + (1 : Int32) < (9 : Int32) then (fX7_firstOf x1) + (1 : Int32) else (9 : Int32)) (if (0 : Int32) < (fX7_secondOf x1) - (1 : Int32) then (fX7_secondOf x1) - (1 : Int32) else (0 : Int32)) (0 : Int32))), (4, .long (((fX7_firstOf x1) + x2).toInt64)), (3, .int (fX7_firstOf x1)), (0, .ref (ad 9)), (1, .int x1), (2, .int x2)]) hx hb dX7_workFirst_44 hl (by decide) rfl (fun ls hl => ?_)
    refine lv_aload_n hx hb dX7_workFirst_46 rfl (lv_at hl 3 rfl) ?_
    refine z_getr hx hb hts zin_X7 hown hK hw zF0_9_1 (hts _ zw_265) dX7_workFirst_47 ?_
    refine lv_iload hx hb dX7_workFirst_50 (lv_at hl 0 rfl) ?_
    refine lv_aload_n hx hb dX7_workFirst_52 rfl (lv_at hl 3 rfl) ?_
    refine z_getr hx hb hts zin_X7 hown hK hw zF0_9_1 (hts _ zw_265) dX7_workFirst_53 ?_
    refine lv_iload hx hb dX7_workFirst_56 (lv_at hl 0 rfl) ?_
    obtain ⟨v2, e3, h⟩ := zbind h
    refine z_lald hx hb hK hw e3 dX7_workFirst_58 ?_
    refine lv_aload_n hx hb dX7_workFirst_59 rfl (lv_at hl 3 rfl) ?_
    refine z_getr hx hb hts zin_X7 hown hK hw zF0_9_0 (hts _ zw_264) dX7_workFirst_60 ?_
    refine lv_iload_n hx hb dX7_workFirst_63 rfl (lv_at hl 4 rfl) ?_
    obtain ⟨v4, e5, h⟩ := zbind h
    refine z_lald hx hb hK hw e5 dX7_workFirst_64 ?_
    refine lv_lload hx hb dX7_workFirst_65 (lv_at hl 1 rfl) ?_
    refine lv_bipush (v := 40) hx hb dX7_workFirst_67 (by decide) ?_
    refine lv_lshl hx hb dX7_workFirst_69 rfl ?_
    refine lv_ladd hx hb dX7_workFirst_70 ?_
    refine va_mmin_long hx hb (hml.trans hl.1.symm) hown (hts _ zw_712) (hts _ zw_713) (hts _ zw_65) (hts _ zw_714) (Nat.le_of_ble_eq_true rfl) (Nat.le_of_ble_eq_true rfl) (Nat.zero_le _) (Nat.zero_le _) dX7_workFirst_71 ?_
    obtain ⟨s6, e7, h⟩ := zbind h
    refine z_last hx hb hK hw e7 dX7_workFirst_74 (fun H locs hw => ?_)
    obtain rfl := Option.some.inj h
    exact hret _ _ _ _ hw dX7_workFirst_75
  · rw [if_pos t1] at h
    refine lv_iconst (v := 0) hx hb dX7_workFirst_13 (by decide) ?_
    refine lv_goto (tgt := 18) hx hb dX7_workFirst_14 (by decide) ?_
    refine lv_iadd hx hb dX7_workFirst_18 ?_
    refine lv_i2l hx hb dX7_workFirst_19 rfl ?_
    refine lv_lstore (lv' := [(4, .long (((fX7_firstOf x1) + (0 : Int32)).toInt64)), (3, .int (fX7_firstOf x1)), (0, .ref (ad 9)), (1, .int x1), (2, .int x2)]) hx hb dX7_workFirst_20 hl (by decide) rfl (fun ls hl => ?_)
    refine lv_bipush (v := 9) hx hb dX7_workFirst_22 (by decide) ?_
    refine lv_iload_n hx hb dX7_workFirst_24 rfl (lv_at hl 1 rfl) ?_
    refine lv_iconst (v := 1) hx hb dX7_workFirst_25 (by decide) ?_
    refine lv_iadd hx hb dX7_workFirst_26 ?_
    refine va_mmin hx hb (hml.trans hl.1.symm) hown (hts _ zw_705) (hts _ zw_386) (hts _ zw_65) (hts _ zw_387) (Nat.le_of_ble_eq_true rfl) (Nat.le_of_ble_eq_true rfl) (Nat.zero_le _) (Nat.zero_le _) dX7_workFirst_27 ?_
    refine lv_iconst (v := 0) hx hb dX7_workFirst_30 (by decide) ?_
    refine lv_iload_n hx hb dX7_workFirst_31 rfl (lv_at hl 3 rfl) ?_
    refine z_cSi (As := [.int x1]) (rest := [.int (0 : Int32), .int (if (fX7_firstOf x1) + (1 : Int32) < (9 : Int32) then (fX7_firstOf x1) + (1 : Int32) else (9 : Int32))]) ⟨hx, hb, hml, hown, hts⟩ hK hw hA (kX7_secondOf l D g ad σ x1 _ rfl) (zcwS 1 hts zgoodIn zw_706 zw_707 zw_62 zw_708 rfl rfl hX7_secondOf ⟨Nat.le_of_ble_eq_true rfl, Nat.le_of_ble_eq_true rfl⟩) rfl hl.1 rfl (Nat.le_of_ble_eq_true rfl) dX7_workFirst_32 ⟨Nat.zero_le _, Nat.zero_le _⟩ (fun H locs hw => ?_)
    refine lv_iconst (v := 1) hx hb dX7_workFirst_35 (by decide) ?_
    refine lv_isub hx hb dX7_workFirst_36 ?_
    refine va_mmax hx hb (hml.trans hl.1.symm) hown (hts _ zw_709) (hts _ zw_710) (hts _ zw_65) (hts _ zw_711) (Nat.le_of_ble_eq_true rfl) (Nat.le_of_ble_eq_true rfl) (Nat.zero_le _) (Nat.zero_le _) dX7_workFirst_37 ?_
    refine lv_iconst (v := 0) hx hb dX7_workFirst_40 (by decide) ?_
    refine z_cSi (As := [.int (if (fX7_firstOf x1) + (1 : Int32) < (9 : Int32) then (fX7_firstOf x1) + (1 : Int32) else (9 : Int32)), .int (if (0 : Int32) < (fX7_secondOf x1) - (1 : Int32) then (fX7_secondOf x1) - (1 : Int32) else (0 : Int32)), .int (0 : Int32)]) (rest := []) ⟨hx, hb, hml, hown, hts⟩ hK hw hA (kX7_stateOf l D g ad σ (if (fX7_firstOf x1) + (1 : Int32) < (9 : Int32) then (fX7_firstOf x1) + (1 : Int32) else (9 : Int32)) (if (0 : Int32) < (fX7_secondOf x1) - (1 : Int32) then (fX7_secondOf x1) - (1 : Int32) else (0 : Int32)) (0 : Int32) _ rfl) (zcwS 3 hts zgoodIn zw_688 zw_689 zw_62 zw_690 rfl rfl hX7_stateOf ⟨Nat.le_of_ble_eq_true rfl, Nat.le_of_ble_eq_true rfl⟩) rfl hl.1 rfl (Nat.le_of_ble_eq_true rfl) dX7_workFirst_41 ⟨Nat.zero_le _, Nat.zero_le _⟩ (fun H locs hw => ?_)
    refine lv_istore (lv' := [(6, .int (fX7_stateOf (if (fX7_firstOf x1) + (1 : Int32) < (9 : Int32) then (fX7_firstOf x1) + (1 : Int32) else (9 : Int32)) (if (0 : Int32) < (fX7_secondOf x1) - (1 : Int32) then (fX7_secondOf x1) - (1 : Int32) else (0 : Int32)) (0 : Int32))), (4, .long (((fX7_firstOf x1) + (0 : Int32)).toInt64)), (3, .int (fX7_firstOf x1)), (0, .ref (ad 9)), (1, .int x1), (2, .int x2)]) hx hb dX7_workFirst_44 hl (by decide) rfl (fun ls hl => ?_)
    refine lv_aload_n hx hb dX7_workFirst_46 rfl (lv_at hl 3 rfl) ?_
    refine z_getr hx hb hts zin_X7 hown hK hw zF0_9_1 (hts _ zw_265) dX7_workFirst_47 ?_
    refine lv_iload hx hb dX7_workFirst_50 (lv_at hl 0 rfl) ?_
    refine lv_aload_n hx hb dX7_workFirst_52 rfl (lv_at hl 3 rfl) ?_
    refine z_getr hx hb hts zin_X7 hown hK hw zF0_9_1 (hts _ zw_265) dX7_workFirst_53 ?_
    refine lv_iload hx hb dX7_workFirst_56 (lv_at hl 0 rfl) ?_
    obtain ⟨v8, e9, h⟩ := zbind h
    refine z_lald hx hb hK hw e9 dX7_workFirst_58 ?_
    refine lv_aload_n hx hb dX7_workFirst_59 rfl (lv_at hl 3 rfl) ?_
    refine z_getr hx hb hts zin_X7 hown hK hw zF0_9_0 (hts _ zw_264) dX7_workFirst_60 ?_
    refine lv_iload_n hx hb dX7_workFirst_63 rfl (lv_at hl 4 rfl) ?_
    obtain ⟨v10, e11, h⟩ := zbind h
    refine z_lald hx hb hK hw e11 dX7_workFirst_64 ?_
    refine lv_lload hx hb dX7_workFirst_65 (lv_at hl 1 rfl) ?_
    refine lv_bipush (v := 40) hx hb dX7_workFirst_67 (by decide) ?_
    refine lv_lshl hx hb dX7_workFirst_69 rfl ?_
    refine lv_ladd hx hb dX7_workFirst_70 ?_
    refine va_mmin_long hx hb (hml.trans hl.1.symm) hown (hts _ zw_712) (hts _ zw_713) (hts _ zw_65) (hts _ zw_714) (Nat.le_of_ble_eq_true rfl) (Nat.le_of_ble_eq_true rfl) (Nat.zero_le _) (Nat.zero_le _) dX7_workFirst_71 ?_
    obtain ⟨s12, e13, h⟩ := zbind h
    refine z_last hx hb hK hw e13 dX7_workFirst_74 (fun H locs hw => ?_)
    obtain rfl := Option.some.inj h
    exact hret _ _ _ _ hw dX7_workFirst_75
