/-! walks: X11_sheet, X11_lose, X11_put, X11_cell, X11_copy, X11_begins, X11_tell, X11_pay, X11_as, X11_trace, X11_fault, X11_many -/
set_option maxHeartbeats 4000000 in
set_option maxRecDepth 100000 in
theorem wX11_sheet_57 {p : Program} {l : Launch} {e : Env} {s : State} {m : MethodId} {args : Array Value} {below : List Frame} {meth : Method} {c : Code} {A : Nat → Prop} {H0 : Heap} {Q : State → Prop} {D : va_G} {g : zG} {ad : Nat → Nat} (C : zCx p c cX11_sheet s args RX11 m 5 A H0 D g) (x1 : Int32) (n : Nat) (a : (Int32 × zSt)) (b : (Int32 × zSt)) (h : zLp (fun a => bX11_sheet_57 x1 a.1 a.2) n a = some b) (hk : ∀ (H : Heap) (locs : List Loc) (ls : Array Slot), zH D g 1 ad A H0 b.2 H locs → lv_has ls 5 [(0, .ref (ad 0)), (1, .int x1), (4, .int b.1)] → W p l e (zRm 2) s m args below meth c H locs 0 0 Q (F0 m 83 ls [])) : ∀ (H : Heap) (locs : List Loc) (ls : Array Slot), zH D g 1 ad A H0 a.2 H locs → lv_has ls 5 [(0, .ref (ad 0)), (1, .int x1), (4, .int a.1)] → W p l e (zRm 2) s m args below meth c H locs 0 0 Q (F0 m 57 ls []) := by
  obtain ⟨hx, hb, hml, hown, hts, hK, hA⟩ := id C
  refine zLp_walk (P := fun (a : (Int32 × zSt)) => ∀ (H : Heap) (locs : List Loc) (ls : Array Slot), zH D g 1 ad A H0 a.2 H locs → lv_has ls 5 [(0, .ref (ad 0)), (1, .int x1), (4, .int a.1)] → W p l e (zRm 2) s m args below meth c H locs 0 0 Q (F0 m 57 ls [])) (E := fun (b' : (Int32 × zSt)) => b' = b) ?_ n a b h rfl
  intro a r h hn he H locs ls hw hl
  obtain ⟨x4, σ⟩ := a
  have h : bX11_sheet_57 x1 x4 σ = some r := h
  have hl : lv_has ls 5 [(0, .ref (ad 0)), (1, .int x1), (4, .int x4)] := hl
  have hw : zH D g 1 ad A H0 σ H locs := hw
  unfold bX11_sheet_57 at h
  refine lv_iload hx hb dX11_sheet_57 (lv_at hl 2 rfl) ?_
  refine lv_bipush (v := 120) hx hb dX11_sheet_59 (by decide) ?_
  refine lv_icmp_ge (tgt := 83) hx hb dX11_sheet_61 (by decide) (fun t1 => ?_) (fun t1 => ?_)
  · rw [if_pos t1] at h
    obtain rfl := Option.some.inj h
    obtain rfl := he _ rfl
    exact hk _ _ _ hw (lv_sub hl [0, 1, 2] rfl)
  · rw [if_neg t1] at h
    refine lv_aload_n hx hb dX11_sheet_64 rfl (lv_at hl 0 rfl) ?_
    refine z_getc hx hb hts zin_X11 hown hK hw zF1_0_4 (hts _ zw_842) dX11_sheet_65 ?_
    refine lv_bipush (v := 120) hx hb dX11_sheet_68 (by decide) ?_
    refine lv_iload_n hx hb dX11_sheet_70 rfl (lv_at hl 1 rfl) ?_
    refine lv_imul hx hb dX11_sheet_71 ?_
    refine lv_iload hx hb dX11_sheet_72 (lv_at hl 2 rfl) ?_
    refine lv_iadd hx hb dX11_sheet_74 ?_
    refine lv_iconst (v := 0) hx hb dX11_sheet_75 (by decide) ?_
    obtain ⟨s2, e3, h⟩ := zbind h
    refine z_iast hx hb hK hw e3 dX11_sheet_76 (fun H locs hw => ?_)
    refine lv_iinc (v := x4 + 1) (lv' := [(4, .int (x4 + 1)), (0, .ref (ad 0)), (1, .int x1)]) hx hb dX11_sheet_77 hl (k := 2) rfl rfl (by decide) rfl (fun ls hl => ?_)
    refine lv_goto (tgt := 57) hx hb dX11_sheet_80 (by decide) ?_
    obtain rfl := Option.some.inj h
    exact hn _ rfl _ _ _ hw (lv_sub hl [1, 2, 0] rfl)
theorem hX11_sheet : yX11_sheet.cls = RX11 ∧ yX11_sheet.cls ≠ "java/lang/invoke/MethodHandle" ∧ yX11_sheet.cls ≠ "java/lang/invoke/VarHandle" ∧ (parseMethodDescriptor yX11_sheet.desc).map (fun d => d.parameters.length) = some 3 := by decide +kernel
set_option maxHeartbeats 4000000 in
set_option maxRecDepth 100000 in
theorem kX11_sheet (l : Launch) (D : va_G) (g : zG) (ad : Nat → Nat) (σ : zSt) (x1 : Int32) (x2 : Int32) (x3 : Int32) (o : Int32 × zSt) (h : fX11_sheet σ x1 x2 x3 = some o) : zMi l D g 1 ad yX11_sheet (Cond.code yX11_sheet cX11_sheet 5 (some .int) :: zws) (zRm 2) [.ref (ad 0), .int x1, .int x2, .int x3] σ o.1 o.2 := by
  refine z_enter_i (by decide) (Nat.le_of_ble_eq_true rfl) ?_
  intro p e s m below meth c A ls Q C hw hl hret
  obtain ⟨hx, hb, hml, hown, hts, hK, hA⟩ := id C
  have hown : s.vm.findClass RX11 = some m.cls := hown
  have C : zCx p c cX11_sheet s _ RX11 m 5 A s.heap D g := C
  have hl : lv_has ls 5 [(0, .ref (ad 0)), (1, .int x1), (2, .int x2), (3, .int x3)] := hl
  unfold fX11_sheet at h
  refine lv_aload_n hx hb dX11_sheet_0 rfl (lv_at hl 0 rfl) ?_
  refine lv_iconst (v := 0) hx hb dX11_sheet_1 (by decide) ?_
  refine z_puti hx hb hts zin_X11 tyX11_ok nmX11 hown hK hw zF1_0_0 (hts _ zw_838) zY1_0_0 dX11_sheet_2 (fun H locs hw => ?_)
  refine lv_iload_n hx hb dX11_sheet_5 rfl (lv_at hl 1 rfl) ?_
  refine z_cSi (As := [.int x1]) (rest := []) ⟨hx, hb, hml, hown, hts⟩ hK hw hA (kX11_isSheet l D g ad (zwI σ 0 0 (0 : Int32)) x1 _ rfl) (zcwS 1 hts zgoodIn zw_927 zw_928 zw_64 zw_929 rfl rfl hX11_isSheet ⟨Nat.le_of_ble_eq_true rfl, Nat.le_of_ble_eq_true rfl⟩) rfl hl.1 rfl (Nat.le_of_ble_eq_true rfl) dX11_sheet_6 ⟨Nat.zero_le _, Nat.zero_le _⟩ (fun H locs hw => ?_)
  refine lv_if_ne (tgt := 14) hx hb dX11_sheet_9 (by decide) (fun t1 => ?_) (fun t1 => ?_)
  · rw [if_neg t1] at h
    refine lv_iload_n hx hb dX11_sheet_14 rfl (lv_at hl 2 rfl) ?_
    refine z_cSi (As := [.int x2]) (rest := []) ⟨hx, hb, hml, hown, hts⟩ hK hw hA (kX11_isSort l D g ad (zwI σ 0 0 (0 : Int32)) x2 _ rfl) (zcwS 1 hts zgoodIn zw_933 zw_934 zw_64 zw_935 rfl rfl hX11_isSort ⟨Nat.le_of_ble_eq_true rfl, Nat.le_of_ble_eq_true rfl⟩) rfl hl.1 rfl (Nat.le_of_ble_eq_true rfl) dX11_sheet_15 ⟨Nat.zero_le _, Nat.zero_le _⟩ (fun H locs hw => ?_)
    refine lv_if_eq (tgt := 27) hx hb dX11_sheet_18 (by decide) (fun t2 => ?_) (fun t2 => ?_)
    · rw [if_pos t2] at h
      refine lv_bipush (v := (-2)) hx hb dX11_sheet_27 (by decide) ?_
      obtain rfl := Option.some.inj h
      exact hret _ _ _ _ hw rfl dX11_sheet_29
    · rw [if_neg t2] at h
      refine lv_iload_n hx hb dX11_sheet_21 rfl (lv_at hl 3 rfl) ?_
      refine lv_bipush (v := 120) hx hb dX11_sheet_22 (by decide) ?_
      refine lv_icmp_le (tgt := 30) hx hb dX11_sheet_24 (by decide) (fun t3 => ?_) (fun t3 => ?_)
      · rw [if_pos t3] at h
        refine lv_iload_n hx hb dX11_sheet_30 rfl (lv_at hl 3 rfl) ?_
        refine lv_if_ge (tgt := 40) hx hb dX11_sheet_31 (by decide) (fun t4 => ?_) (fun t4 => ?_)
        · rw [if_pos t4] at h
          refine lv_aload_n hx hb dX11_sheet_40 rfl (lv_at hl 0 rfl) ?_
          refine z_getc hx hb hts zin_X11 hown hK hw zF1_0_2 (hts _ zw_840) dX11_sheet_41 ?_
          refine lv_iload_n hx hb dX11_sheet_44 rfl (lv_at hl 1 rfl) ?_
          refine lv_iload_n hx hb dX11_sheet_45 rfl (lv_at hl 2 rfl) ?_
          obtain ⟨s5, e6, h⟩ := zbind h
          refine z_iast hx hb hK hw e6 dX11_sheet_46 (fun H locs hw => ?_)
          refine lv_aload_n hx hb dX11_sheet_47 rfl (lv_at hl 0 rfl) ?_
          refine z_getc hx hb hts zin_X11 hown hK hw zF1_0_3 (hts _ zw_841) dX11_sheet_48 ?_
          refine lv_iload_n hx hb dX11_sheet_51 rfl (lv_at hl 1 rfl) ?_
          refine lv_iload_n hx hb dX11_sheet_52 rfl (lv_at hl 3 rfl) ?_
          obtain ⟨s7, e8, h⟩ := zbind h
          refine z_iast hx hb hK hw e8 dX11_sheet_53 (fun H locs hw => ?_)
          refine lv_iconst (v := 0) hx hb dX11_sheet_54 (by decide) ?_
          refine lv_istore (lv' := [(4, .int (0 : Int32)), (0, .ref (ad 0)), (1, .int x1), (2, .int x2), (3, .int x3)]) hx hb dX11_sheet_55 hl (by decide) rfl (fun ls hl => ?_)
          obtain ⟨b9, e10, h⟩ := zbind h
          refine wX11_sheet_57 C x1 zFU ((0 : Int32), s7) b9 e10 (fun H locs ls hw hl => ?_) _ _ _ hw (lv_sub hl [1, 2, 0] rfl)
          have hl : lv_has ls 5 [(0, .ref (ad 0)), (1, .int x1), (4, .int b9.1)] := hl
          refine lv_iconst (v := 1) hx hb dX11_sheet_83 (by decide) ?_
          obtain rfl := Option.some.inj h
          exact hret _ _ _ _ hw rfl dX11_sheet_84
        · rw [if_neg t4] at h
          refine lv_aload_n hx hb dX11_sheet_34 rfl (lv_at hl 0 rfl) ?_
          refine lv_iconst (v := 4) hx hb dX11_sheet_35 (by decide) ?_
          refine z_cVi (As := [.int (4 : Int32)]) (rest := []) ⟨hx, hb, hml, hown, hts⟩ hK hw hA (kX11_fails l D g ad (zwI σ 0 0 (0 : Int32)) (4 : Int32) _ rfl) (zcwV 1 hts zgoodIn zw_940 zw_942 zw_25 zw_64 zw_943 rfl rfl hX11_fails ⟨Nat.le_of_ble_eq_true rfl, Nat.le_of_ble_eq_true rfl⟩) zO1_0 rfl hl.1 rfl (Nat.le_of_ble_eq_true rfl) dX11_sheet_36 ⟨Nat.zero_le _, Nat.zero_le _⟩ (fun H locs hw => ?_)
          obtain rfl := Option.some.inj h
          exact hret _ _ _ _ hw rfl dX11_sheet_39
      · rw [if_neg t3] at h
        refine lv_bipush (v := (-2)) hx hb dX11_sheet_27 (by decide) ?_
        obtain rfl := Option.some.inj h
        exact hret _ _ _ _ hw rfl dX11_sheet_29
  · rw [if_pos t1] at h
    refine lv_iconst (v := (-1)) hx hb dX11_sheet_12 (by decide) ?_
    obtain rfl := Option.some.inj h
    exact hret _ _ _ _ hw rfl dX11_sheet_13
theorem hX11_lose : yX11_lose.cls = RX11 ∧ yX11_lose.cls ≠ "java/lang/invoke/MethodHandle" ∧ yX11_lose.cls ≠ "java/lang/invoke/VarHandle" ∧ (parseMethodDescriptor yX11_lose.desc).map (fun d => d.parameters.length) = some 1 := by decide +kernel
set_option maxHeartbeats 4000000 in
set_option maxRecDepth 100000 in
theorem kX11_lose (l : Launch) (D : va_G) (g : zG) (ad : Nat → Nat) (σ : zSt) (x1 : Int32) (o : Int32 × zSt) (h : fX11_lose σ x1 = some o) : zMi l D g 1 ad yX11_lose (Cond.code yX11_lose cX11_lose 3 (some .int) :: zws) (zRm 2) [.ref (ad 0), .int x1] σ o.1 o.2 := by
  refine z_enter_i (by decide) (Nat.le_of_ble_eq_true rfl) ?_
  intro p e s m below meth c A ls Q C hw hl hret
  obtain ⟨hx, hb, hml, hown, hts, hK, hA⟩ := id C
  have hown : s.vm.findClass RX11 = some m.cls := hown
  have C : zCx p c cX11_lose s _ RX11 m 3 A s.heap D g := C
  have hl : lv_has ls 3 [(0, .ref (ad 0)), (1, .int x1)] := hl
  unfold fX11_lose at h
  refine lv_iload_n hx hb dX11_lose_0 rfl (lv_at hl 1 rfl) ?_
  refine z_cSi (As := [.int x1]) (rest := []) ⟨hx, hb, hml, hown, hts⟩ hK hw hA (kX11_isSheet l D g ad σ x1 _ rfl) (zcwS 1 hts zgoodIn zw_927 zw_928 zw_64 zw_929 rfl rfl hX11_isSheet ⟨Nat.le_of_ble_eq_true rfl, Nat.le_of_ble_eq_true rfl⟩) rfl hl.1 rfl (Nat.le_of_ble_eq_true rfl) dX11_lose_1 ⟨Nat.zero_le _, Nat.zero_le _⟩ (fun H locs hw => ?_)
  refine lv_if_ne (tgt := 9) hx hb dX11_lose_4 (by decide) (fun t1 => ?_) (fun t1 => ?_)
  · rw [if_neg t1] at h
    refine lv_aload_n hx hb dX11_lose_9 rfl (lv_at hl 0 rfl) ?_
    refine z_getc hx hb hts zin_X11 hown hK hw zF1_0_2 (hts _ zw_840) dX11_lose_10 ?_
    refine lv_iload_n hx hb dX11_lose_13 rfl (lv_at hl 1 rfl) ?_
    obtain ⟨v2, e3, h⟩ := zbind h
    refine z_iald hx hb hK hw e3 dX11_lose_14 ?_
    refine lv_bipush (v := (-9)) hx hb dX11_lose_15 (by decide) ?_
    refine lv_icmp_ne (tgt := 24) hx hb dX11_lose_17 (by decide) (fun t4 => ?_) (fun t4 => ?_)
    · rw [if_neg t4] at h
      refine lv_iconst (v := 1) hx hb dX11_lose_24 (by decide) ?_
      refine lv_istore_n (lv' := [(2, .int (1 : Int32)), (0, .ref (ad 0)), (1, .int x1)]) hx hb dX11_lose_25 rfl hl (by decide) rfl (fun ls hl => ?_)
      refine lv_aload_n hx hb dX11_lose_26 rfl (lv_at hl 1 rfl) ?_
      refine z_getc hx hb hts zin_X11 hown hK hw zF1_0_2 (hts _ zw_840) dX11_lose_27 ?_
      refine lv_iload_n hx hb dX11_lose_30 rfl (lv_at hl 2 rfl) ?_
      refine lv_bipush (v := (-9)) hx hb dX11_lose_31 (by decide) ?_
      obtain ⟨s5, e6, h⟩ := zbind h
      refine z_iast hx hb hK hw e6 dX11_lose_33 (fun H locs hw => ?_)
      refine lv_iload_n hx hb dX11_lose_34 rfl (lv_at hl 0 rfl) ?_
      obtain rfl := Option.some.inj h
      exact hret _ _ _ _ hw rfl dX11_lose_35
    · rw [if_pos t4] at h
      refine lv_iconst (v := 0) hx hb dX11_lose_20 (by decide) ?_
      refine lv_goto (tgt := 25) hx hb dX11_lose_21 (by decide) ?_
      refine lv_istore_n (lv' := [(2, .int (0 : Int32)), (0, .ref (ad 0)), (1, .int x1)]) hx hb dX11_lose_25 rfl hl (by decide) rfl (fun ls hl => ?_)
      refine lv_aload_n hx hb dX11_lose_26 rfl (lv_at hl 1 rfl) ?_
      refine z_getc hx hb hts zin_X11 hown hK hw zF1_0_2 (hts _ zw_840) dX11_lose_27 ?_
      refine lv_iload_n hx hb dX11_lose_30 rfl (lv_at hl 2 rfl) ?_
      refine lv_bipush (v := (-9)) hx hb dX11_lose_31 (by decide) ?_
      obtain ⟨s7, e8, h⟩ := zbind h
      refine z_iast hx hb hK hw e8 dX11_lose_33 (fun H locs hw => ?_)
      refine lv_iload_n hx hb dX11_lose_34 rfl (lv_at hl 0 rfl) ?_
      obtain rfl := Option.some.inj h
      exact hret _ _ _ _ hw rfl dX11_lose_35
  · rw [if_pos t1] at h
    refine lv_iconst (v := (-1)) hx hb dX11_lose_7 (by decide) ?_
    obtain rfl := Option.some.inj h
    exact hret _ _ _ _ hw rfl dX11_lose_8
theorem hX11_put : yX11_put.cls = RX11 ∧ yX11_put.cls ≠ "java/lang/invoke/MethodHandle" ∧ yX11_put.cls ≠ "java/lang/invoke/VarHandle" ∧ (parseMethodDescriptor yX11_put.desc).map (fun d => d.parameters.length) = some 3 := by decide +kernel
set_option maxHeartbeats 4000000 in
set_option maxRecDepth 100000 in
theorem kX11_put (l : Launch) (D : va_G) (g : zG) (ad : Nat → Nat) (σ : zSt) (x1 : Int32) (x2 : Int32) (x3 : Int32) (o : Int32 × zSt) (h : fX11_put σ x1 x2 x3 = some o) : zMi l D g 1 ad yX11_put (Cond.code yX11_put cX11_put 4 (some .int) :: zws) (zRm 2) [.ref (ad 0), .int x1, .int x2, .int x3] σ o.1 o.2 := by
  refine z_enter_i (by decide) (Nat.le_of_ble_eq_true rfl) ?_
  intro p e s m below meth c A ls Q C hw hl hret
  obtain ⟨hx, hb, hml, hown, hts, hK, hA⟩ := id C
  have hown : s.vm.findClass RX11 = some m.cls := hown
  have C : zCx p c cX11_put s _ RX11 m 4 A s.heap D g := C
  have hl : lv_has ls 4 [(0, .ref (ad 0)), (1, .int x1), (2, .int x2), (3, .int x3)] := hl
  unfold fX11_put at h
  refine lv_aload_n hx hb dX11_put_0 rfl (lv_at hl 0 rfl) ?_
  refine lv_iconst (v := 0) hx hb dX11_put_1 (by decide) ?_
  refine z_puti hx hb hts zin_X11 tyX11_ok nmX11 hown hK hw zF1_0_0 (hts _ zw_838) zY1_0_0 dX11_put_2 (fun H locs hw => ?_)
  refine lv_iload_n hx hb dX11_put_5 rfl (lv_at hl 1 rfl) ?_
  refine z_cSi (As := [.int x1]) (rest := []) ⟨hx, hb, hml, hown, hts⟩ hK hw hA (kX11_isSheet l D g ad (zwI σ 0 0 (0 : Int32)) x1 _ rfl) (zcwS 1 hts zgoodIn zw_927 zw_928 zw_64 zw_929 rfl rfl hX11_isSheet ⟨Nat.le_of_ble_eq_true rfl, Nat.le_of_ble_eq_true rfl⟩) rfl hl.1 rfl (Nat.le_of_ble_eq_true rfl) dX11_put_6 ⟨Nat.zero_le _, Nat.zero_le _⟩ (fun H locs hw => ?_)
  refine lv_if_ne (tgt := 14) hx hb dX11_put_9 (by decide) (fun t1 => ?_) (fun t1 => ?_)
  · rw [if_neg t1] at h
    refine lv_aload_n hx hb dX11_put_14 rfl (lv_at hl 0 rfl) ?_
    refine z_getc hx hb hts zin_X11 hown hK hw zF1_0_2 (hts _ zw_840) dX11_put_15 ?_
    refine lv_iload_n hx hb dX11_put_18 rfl (lv_at hl 1 rfl) ?_
    obtain ⟨v2, e3, h⟩ := zbind h
    refine z_iald hx hb hK hw e3 dX11_put_19 ?_
    refine lv_bipush (v := (-9)) hx hb dX11_put_20 (by decide) ?_
    refine lv_icmp_ne (tgt := 31) hx hb dX11_put_22 (by decide) (fun t4 => ?_) (fun t4 => ?_)
    · rw [if_neg t4] at h
      refine lv_iload_n hx hb dX11_put_31 rfl (lv_at hl 2 rfl) ?_
      refine lv_iconst (v := 0) hx hb dX11_put_32 (by decide) ?_
      refine lv_aload_n hx hb dX11_put_33 rfl (lv_at hl 0 rfl) ?_
      refine z_getc hx hb hts zin_X11 hown hK hw zF1_0_3 (hts _ zw_841) dX11_put_34 ?_
      refine lv_iload_n hx hb dX11_put_37 rfl (lv_at hl 1 rfl) ?_
      obtain ⟨v5, e6, h⟩ := zbind h
      refine z_iald hx hb hK hw e6 dX11_put_38 ?_
      refine lv_iconst (v := 1) hx hb dX11_put_39 (by decide) ?_
      refine lv_isub hx hb dX11_put_40 ?_
      refine z_cSi (As := [.int x2, .int (0 : Int32), .int (v5 - (1 : Int32))]) (rest := []) ⟨hx, hb, hml, hown, hts⟩ hK hw hA (kX11_within l D g ad (zwI σ 0 0 (0 : Int32)) x2 (0 : Int32) (v5 - (1 : Int32)) _ rfl) (zcwS 3 hts zgoodIn zw_930 zw_931 zw_64 zw_932 rfl rfl hX11_within ⟨Nat.le_of_ble_eq_true rfl, Nat.le_of_ble_eq_true rfl⟩) rfl hl.1 rfl (Nat.le_of_ble_eq_true rfl) dX11_put_41 ⟨Nat.zero_le _, Nat.zero_le _⟩ (fun H locs hw => ?_)
      refine lv_if_ne (tgt := 53) hx hb dX11_put_44 (by decide) (fun t7 => ?_) (fun t7 => ?_)
      · rw [if_neg t7] at h
        refine lv_aload_n hx hb dX11_put_53 rfl (lv_at hl 0 rfl) ?_
        refine z_getc hx hb hts zin_X11 hown hK hw zF1_0_4 (hts _ zw_842) dX11_put_54 ?_
        refine lv_bipush (v := 120) hx hb dX11_put_57 (by decide) ?_
        refine lv_iload_n hx hb dX11_put_59 rfl (lv_at hl 1 rfl) ?_
        refine lv_imul hx hb dX11_put_60 ?_
        refine lv_iload_n hx hb dX11_put_61 rfl (lv_at hl 2 rfl) ?_
        refine lv_iadd hx hb dX11_put_62 ?_
        refine lv_aload_n hx hb dX11_put_63 rfl (lv_at hl 0 rfl) ?_
        refine z_getc hx hb hts zin_X11 hown hK hw zF1_0_2 (hts _ zw_840) dX11_put_64 ?_
        refine lv_iload_n hx hb dX11_put_67 rfl (lv_at hl 1 rfl) ?_
        obtain ⟨v8, e9, h⟩ := zbind h
        refine z_iald hx hb hK hw e9 dX11_put_68 ?_
        refine lv_if_ne (tgt := 77) hx hb dX11_put_69 (by decide) (fun t10 => ?_) (fun t10 => ?_)
        · rw [if_neg t10] at h
          refine lv_aload_n hx hb dX11_put_77 rfl (lv_at hl 0 rfl) ?_
          refine z_getc hx hb hts zin_X11 hown hK hw zF1_0_2 (hts _ zw_840) dX11_put_78 ?_
          refine lv_iload_n hx hb dX11_put_81 rfl (lv_at hl 1 rfl) ?_
          obtain ⟨v11, e12, h⟩ := zbind h
          refine z_iald hx hb hK hw e12 dX11_put_82 ?_
          refine lv_iconst (v := 1) hx hb dX11_put_83 (by decide) ?_
          refine lv_icmp_ne (tgt := 92) hx hb dX11_put_84 (by decide) (fun t13 => ?_) (fun t13 => ?_)
          · rw [if_neg t13] at h
            refine lv_iload_n hx hb dX11_put_92 rfl (lv_at hl 3 rfl) ?_
            obtain ⟨s14, e15, h⟩ := zbind h
            refine z_iast hx hb hK hw e15 dX11_put_93 (fun H locs hw => ?_)
            refine lv_iconst (v := 1) hx hb dX11_put_94 (by decide) ?_
            obtain rfl := Option.some.inj h
            exact hret _ _ _ _ hw rfl dX11_put_95
          · rw [if_pos t13] at h
            refine lv_iload_n hx hb dX11_put_87 rfl (lv_at hl 3 rfl) ?_
            refine lv_i2s hx hb dX11_put_88 rfl ?_
            refine lv_goto (tgt := 93) hx hb dX11_put_89 (by decide) ?_
            obtain ⟨s16, e17, h⟩ := zbind h
            refine z_iast hx hb hK hw e17 dX11_put_93 (fun H locs hw => ?_)
            refine lv_iconst (v := 1) hx hb dX11_put_94 (by decide) ?_
            obtain rfl := Option.some.inj h
            exact hret _ _ _ _ hw rfl dX11_put_95
        · rw [if_pos t10] at h
          refine lv_iload_n hx hb dX11_put_72 rfl (lv_at hl 3 rfl) ?_
          refine lv_i2b hx hb dX11_put_73 rfl ?_
          refine lv_goto (tgt := 93) hx hb dX11_put_74 (by decide) ?_
          obtain ⟨s18, e19, h⟩ := zbind h
          refine z_iast hx hb hK hw e19 dX11_put_93 (fun H locs hw => ?_)
          refine lv_iconst (v := 1) hx hb dX11_put_94 (by decide) ?_
          obtain rfl := Option.some.inj h
          exact hret _ _ _ _ hw rfl dX11_put_95
      · rw [if_pos t7] at h
        refine lv_aload_n hx hb dX11_put_47 rfl (lv_at hl 0 rfl) ?_
        refine lv_iconst (v := 3) hx hb dX11_put_48 (by decide) ?_
        refine z_cVi (As := [.int (3 : Int32)]) (rest := []) ⟨hx, hb, hml, hown, hts⟩ hK hw hA (kX11_fails l D g ad (zwI σ 0 0 (0 : Int32)) (3 : Int32) _ rfl) (zcwV 1 hts zgoodIn zw_940 zw_942 zw_25 zw_64 zw_943 rfl rfl hX11_fails ⟨Nat.le_of_ble_eq_true rfl, Nat.le_of_ble_eq_true rfl⟩) zO1_0 rfl hl.1 rfl (Nat.le_of_ble_eq_true rfl) dX11_put_49 ⟨Nat.zero_le _, Nat.zero_le _⟩ (fun H locs hw => ?_)
        obtain rfl := Option.some.inj h
        exact hret _ _ _ _ hw rfl dX11_put_52
    · rw [if_pos t4] at h
      refine lv_aload_n hx hb dX11_put_25 rfl (lv_at hl 0 rfl) ?_
      refine lv_iconst (v := 1) hx hb dX11_put_26 (by decide) ?_
      refine z_cVi (As := [.int (1 : Int32)]) (rest := []) ⟨hx, hb, hml, hown, hts⟩ hK hw hA (kX11_fails l D g ad (zwI σ 0 0 (0 : Int32)) (1 : Int32) _ rfl) (zcwV 1 hts zgoodIn zw_940 zw_942 zw_25 zw_64 zw_943 rfl rfl hX11_fails ⟨Nat.le_of_ble_eq_true rfl, Nat.le_of_ble_eq_true rfl⟩) zO1_0 rfl hl.1 rfl (Nat.le_of_ble_eq_true rfl) dX11_put_27 ⟨Nat.zero_le _, Nat.zero_le _⟩ (fun H locs hw => ?_)
      obtain rfl := Option.some.inj h
      exact hret _ _ _ _ hw rfl dX11_put_30
  · rw [if_pos t1] at h
    refine lv_iconst (v := (-1)) hx hb dX11_put_12 (by decide) ?_
    obtain rfl := Option.some.inj h
    exact hret _ _ _ _ hw rfl dX11_put_13
theorem hX11_cell : yX11_cell.cls = RX11 ∧ yX11_cell.cls ≠ "java/lang/invoke/MethodHandle" ∧ yX11_cell.cls ≠ "java/lang/invoke/VarHandle" ∧ (parseMethodDescriptor yX11_cell.desc).map (fun d => d.parameters.length) = some 3 := by decide +kernel
set_option maxHeartbeats 4000000 in
set_option maxRecDepth 100000 in
theorem kX11_cell (l : Launch) (D : va_G) (g : zG) (ad : Nat → Nat) (σ : zSt) (x1 : Int32) (x2 : Int32) (x3 : Int32) (o : Int64 × zSt) (h : fX11_cell σ x1 x2 x3 = some o) : zMl l D g 1 ad yX11_cell (Cond.code yX11_cell cX11_cell 4 (some .long) :: zws) (zRm 2) [.ref (ad 0), .int x1, .int x2, .int x3] σ o.1 o.2 := by
  refine z_enter_l (by decide) (Nat.le_of_ble_eq_true rfl) ?_
  intro p e s m below meth c A ls Q C hw hl hret
  obtain ⟨hx, hb, hml, hown, hts, hK, hA⟩ := id C
  have hown : s.vm.findClass RX11 = some m.cls := hown
  have C : zCx p c cX11_cell s _ RX11 m 4 A s.heap D g := C
  have hl : lv_has ls 4 [(0, .ref (ad 0)), (1, .int x1), (2, .int x2), (3, .int x3)] := hl
  unfold fX11_cell at h
  refine lv_aload_n hx hb dX11_cell_0 rfl (lv_at hl 0 rfl) ?_
  refine lv_iconst (v := 0) hx hb dX11_cell_1 (by decide) ?_
  refine z_puti hx hb hts zin_X11 tyX11_ok nmX11 hown hK hw zF1_0_0 (hts _ zw_838) zY1_0_0 dX11_cell_2 (fun H locs hw => ?_)
  refine lv_iload_n hx hb dX11_cell_5 rfl (lv_at hl 1 rfl) ?_
  refine z_cSi (As := [.int x1]) (rest := []) ⟨hx, hb, hml, hown, hts⟩ hK hw hA (kX11_isSheet l D g ad (zwI σ 0 0 (0 : Int32)) x1 _ rfl) (zcwS 1 hts zgoodIn zw_927 zw_928 zw_64 zw_929 rfl rfl hX11_isSheet ⟨Nat.le_of_ble_eq_true rfl, Nat.le_of_ble_eq_true rfl⟩) rfl hl.1 rfl (Nat.le_of_ble_eq_true rfl) dX11_cell_6 ⟨Nat.zero_le _, Nat.zero_le _⟩ (fun H locs hw => ?_)
  refine lv_if_eq (tgt := 19) hx hb dX11_cell_9 (by decide) (fun t1 => ?_) (fun t1 => ?_)
  · rw [if_pos t1] at h
    refine lv_ldc2 hx hb hown (hts _ zw_1029) dX11_cell_19 ?_
    obtain rfl := Option.some.inj h
    exact hret _ _ _ _ hw dX11_cell_22
  · rw [if_neg t1] at h
    refine lv_iload_n hx hb dX11_cell_12 rfl (lv_at hl 3 rfl) ?_
    refine z_cSi (As := [.int x3]) (rest := []) ⟨hx, hb, hml, hown, hts⟩ hK hw hA (kX11_isSort l D g ad (zwI σ 0 0 (0 : Int32)) x3 _ rfl) (zcwS 1 hts zgoodIn zw_933 zw_934 zw_64 zw_935 rfl rfl hX11_isSort ⟨Nat.le_of_ble_eq_true rfl, Nat.le_of_ble_eq_true rfl⟩) rfl hl.1 rfl (Nat.le_of_ble_eq_true rfl) dX11_cell_13 ⟨Nat.zero_le _, Nat.zero_le _⟩ (fun H locs hw => ?_)
    refine lv_if_ne (tgt := 23) hx hb dX11_cell_16 (by decide) (fun t2 => ?_) (fun t2 => ?_)
    · rw [if_neg t2] at h
      refine lv_aload_n hx hb dX11_cell_23 rfl (lv_at hl 0 rfl) ?_
      refine z_getc hx hb hts zin_X11 hown hK hw zF1_0_2 (hts _ zw_840) dX11_cell_24 ?_
      refine lv_iload_n hx hb dX11_cell_27 rfl (lv_at hl 1 rfl) ?_
      obtain ⟨v3, e4, h⟩ := zbind h
      refine z_iald hx hb hK hw e4 dX11_cell_28 ?_
      refine lv_bipush (v := (-9)) hx hb dX11_cell_29 (by decide) ?_
      refine lv_icmp_eq (tgt := 50) hx hb dX11_cell_31 (by decide) (fun t5 => ?_) (fun t5 => ?_)
      · rw [if_pos t5] at h
        refine lv_aload_n hx hb dX11_cell_50 rfl (lv_at hl 0 rfl) ?_
        refine z_getc hx hb hts zin_X11 hown hK hw zF1_0_2 (hts _ zw_840) dX11_cell_51 ?_
        refine lv_iload_n hx hb dX11_cell_54 rfl (lv_at hl 1 rfl) ?_
        obtain ⟨v6, e7, h⟩ := zbind h
        refine z_iald hx hb hK hw e7 dX11_cell_55 ?_
        refine lv_bipush (v := (-9)) hx hb dX11_cell_56 (by decide) ?_
        refine lv_icmp_ne (tgt := 67) hx hb dX11_cell_58 (by decide) (fun t8 => ?_) (fun t8 => ?_)
        · rw [if_neg t8] at h
          refine lv_iload_n hx hb dX11_cell_67 rfl (lv_at hl 2 rfl) ?_
          refine lv_iconst (v := 0) hx hb dX11_cell_68 (by decide) ?_
          refine lv_aload_n hx hb dX11_cell_69 rfl (lv_at hl 0 rfl) ?_
          refine z_getc hx hb hts zin_X11 hown hK hw zF1_0_3 (hts _ zw_841) dX11_cell_70 ?_
          refine lv_iload_n hx hb dX11_cell_73 rfl (lv_at hl 1 rfl) ?_
          obtain ⟨v9, e10, h⟩ := zbind h
          refine z_iald hx hb hK hw e10 dX11_cell_74 ?_
          refine lv_iconst (v := 1) hx hb dX11_cell_75 (by decide) ?_
          refine lv_isub hx hb dX11_cell_76 ?_
          refine z_cSi (As := [.int x2, .int (0 : Int32), .int (v9 - (1 : Int32))]) (rest := []) ⟨hx, hb, hml, hown, hts⟩ hK hw hA (kX11_within l D g ad (zwI σ 0 0 (0 : Int32)) x2 (0 : Int32) (v9 - (1 : Int32)) _ rfl) (zcwS 3 hts zgoodIn zw_930 zw_931 zw_64 zw_932 rfl rfl hX11_within ⟨Nat.le_of_ble_eq_true rfl, Nat.le_of_ble_eq_true rfl⟩) rfl hl.1 rfl (Nat.le_of_ble_eq_true rfl) dX11_cell_77 ⟨Nat.zero_le _, Nat.zero_le _⟩ (fun H locs hw => ?_)
          refine lv_if_ne (tgt := 89) hx hb dX11_cell_80 (by decide) (fun t11 => ?_) (fun t11 => ?_)
          · rw [if_neg t11] at h
            refine lv_aload_n hx hb dX11_cell_89 rfl (lv_at hl 0 rfl) ?_
            refine z_getc hx hb hts zin_X11 hown hK hw zF1_0_4 (hts _ zw_842) dX11_cell_90 ?_
            refine lv_bipush (v := 120) hx hb dX11_cell_93 (by decide) ?_
            refine lv_iload_n hx hb dX11_cell_95 rfl (lv_at hl 1 rfl) ?_
            refine lv_imul hx hb dX11_cell_96 ?_
            refine lv_iload_n hx hb dX11_cell_97 rfl (lv_at hl 2 rfl) ?_
            refine lv_iadd hx hb dX11_cell_98 ?_
            obtain ⟨v12, e13, h⟩ := zbind h
            refine z_iald hx hb hK hw e13 dX11_cell_99 ?_
            refine lv_i2l hx hb dX11_cell_100 rfl ?_
            obtain rfl := Option.some.inj h
            exact hret _ _ _ _ hw dX11_cell_101
          · rw [if_pos t11] at h
            refine lv_aload_n hx hb dX11_cell_83 rfl (lv_at hl 0 rfl) ?_
            refine lv_iconst (v := 3) hx hb dX11_cell_84 (by decide) ?_
            refine z_cVl (As := [.int (3 : Int32)]) (rest := []) ⟨hx, hb, hml, hown, hts⟩ hK hw hA (kX11_lost l D g ad (zwI σ 0 0 (0 : Int32)) (3 : Int32) _ rfl) (zcwV 1 hts zgoodIn zw_1030 zw_1032 zw_36 zw_64 zw_1033 rfl rfl hX11_lost ⟨Nat.le_of_ble_eq_true rfl, Nat.le_of_ble_eq_true rfl⟩) zO1_0 rfl hl.1 rfl (Nat.le_of_ble_eq_true rfl) dX11_cell_85 ⟨Nat.zero_le _, Nat.zero_le _⟩ (fun H locs hw => ?_)
            obtain rfl := Option.some.inj h
            exact hret _ _ _ _ hw dX11_cell_88
        · rw [if_pos t8] at h
          refine lv_aload_n hx hb dX11_cell_61 rfl (lv_at hl 0 rfl) ?_
          refine lv_iconst (v := 1) hx hb dX11_cell_62 (by decide) ?_
          refine z_cVl (As := [.int (1 : Int32)]) (rest := []) ⟨hx, hb, hml, hown, hts⟩ hK hw hA (kX11_lost l D g ad (zwI σ 0 0 (0 : Int32)) (1 : Int32) _ rfl) (zcwV 1 hts zgoodIn zw_1030 zw_1032 zw_36 zw_64 zw_1033 rfl rfl hX11_lost ⟨Nat.le_of_ble_eq_true rfl, Nat.le_of_ble_eq_true rfl⟩) zO1_0 rfl hl.1 rfl (Nat.le_of_ble_eq_true rfl) dX11_cell_63 ⟨Nat.zero_le _, Nat.zero_le _⟩ (fun H locs hw => ?_)
          obtain rfl := Option.some.inj h
          exact hret _ _ _ _ hw dX11_cell_66
      · rw [if_neg t5] at h
        refine lv_aload_n hx hb dX11_cell_34 rfl (lv_at hl 0 rfl) ?_
        refine z_getc hx hb hts zin_X11 hown hK hw zF1_0_2 (hts _ zw_840) dX11_cell_35 ?_
        refine lv_iload_n hx hb dX11_cell_38 rfl (lv_at hl 1 rfl) ?_
        obtain ⟨v14, e15, h⟩ := zbind h
        refine z_iald hx hb hK hw e15 dX11_cell_39 ?_
        refine lv_iload_n hx hb dX11_cell_40 rfl (lv_at hl 3 rfl) ?_
        refine lv_icmp_eq (tgt := 50) hx hb dX11_cell_41 (by decide) (fun t16 => ?_) (fun t16 => ?_)
        · rw [if_pos t16] at h
          refine lv_aload_n hx hb dX11_cell_50 rfl (lv_at hl 0 rfl) ?_
          refine z_getc hx hb hts zin_X11 hown hK hw zF1_0_2 (hts _ zw_840) dX11_cell_51 ?_
          refine lv_iload_n hx hb dX11_cell_54 rfl (lv_at hl 1 rfl) ?_
          obtain ⟨v17, e18, h⟩ := zbind h
          refine z_iald hx hb hK hw e18 dX11_cell_55 ?_
          refine lv_bipush (v := (-9)) hx hb dX11_cell_56 (by decide) ?_
          refine lv_icmp_ne (tgt := 67) hx hb dX11_cell_58 (by decide) (fun t19 => ?_) (fun t19 => ?_)
          · rw [if_neg t19] at h
            refine lv_iload_n hx hb dX11_cell_67 rfl (lv_at hl 2 rfl) ?_
            refine lv_iconst (v := 0) hx hb dX11_cell_68 (by decide) ?_
            refine lv_aload_n hx hb dX11_cell_69 rfl (lv_at hl 0 rfl) ?_
            refine z_getc hx hb hts zin_X11 hown hK hw zF1_0_3 (hts _ zw_841) dX11_cell_70 ?_
            refine lv_iload_n hx hb dX11_cell_73 rfl (lv_at hl 1 rfl) ?_
            obtain ⟨v20, e21, h⟩ := zbind h
            refine z_iald hx hb hK hw e21 dX11_cell_74 ?_
            refine lv_iconst (v := 1) hx hb dX11_cell_75 (by decide) ?_
            refine lv_isub hx hb dX11_cell_76 ?_
            refine z_cSi (As := [.int x2, .int (0 : Int32), .int (v20 - (1 : Int32))]) (rest := []) ⟨hx, hb, hml, hown, hts⟩ hK hw hA (kX11_within l D g ad (zwI σ 0 0 (0 : Int32)) x2 (0 : Int32) (v20 - (1 : Int32)) _ rfl) (zcwS 3 hts zgoodIn zw_930 zw_931 zw_64 zw_932 rfl rfl hX11_within ⟨Nat.le_of_ble_eq_true rfl, Nat.le_of_ble_eq_true rfl⟩) rfl hl.1 rfl (Nat.le_of_ble_eq_true rfl) dX11_cell_77 ⟨Nat.zero_le _, Nat.zero_le _⟩ (fun H locs hw => ?_)
            refine lv_if_ne (tgt := 89) hx hb dX11_cell_80 (by decide) (fun t22 => ?_) (fun t22 => ?_)
            · rw [if_neg t22] at h
              refine lv_aload_n hx hb dX11_cell_89 rfl (lv_at hl 0 rfl) ?_
              refine z_getc hx hb hts zin_X11 hown hK hw zF1_0_4 (hts _ zw_842) dX11_cell_90 ?_
              refine lv_bipush (v := 120) hx hb dX11_cell_93 (by decide) ?_
              refine lv_iload_n hx hb dX11_cell_95 rfl (lv_at hl 1 rfl) ?_
              refine lv_imul hx hb dX11_cell_96 ?_
              refine lv_iload_n hx hb dX11_cell_97 rfl (lv_at hl 2 rfl) ?_
              refine lv_iadd hx hb dX11_cell_98 ?_
              obtain ⟨v23, e24, h⟩ := zbind h
              refine z_iald hx hb hK hw e24 dX11_cell_99 ?_
              refine lv_i2l hx hb dX11_cell_100 rfl ?_
              obtain rfl := Option.some.inj h
              exact hret _ _ _ _ hw dX11_cell_101
            · rw [if_pos t22] at h
              refine lv_aload_n hx hb dX11_cell_83 rfl (lv_at hl 0 rfl) ?_
              refine lv_iconst (v := 3) hx hb dX11_cell_84 (by decide) ?_
              refine z_cVl (As := [.int (3 : Int32)]) (rest := []) ⟨hx, hb, hml, hown, hts⟩ hK hw hA (kX11_lost l D g ad (zwI σ 0 0 (0 : Int32)) (3 : Int32) _ rfl) (zcwV 1 hts zgoodIn zw_1030 zw_1032 zw_36 zw_64 zw_1033 rfl rfl hX11_lost ⟨Nat.le_of_ble_eq_true rfl, Nat.le_of_ble_eq_true rfl⟩) zO1_0 rfl hl.1 rfl (Nat.le_of_ble_eq_true rfl) dX11_cell_85 ⟨Nat.zero_le _, Nat.zero_le _⟩ (fun H locs hw => ?_)
              obtain rfl := Option.some.inj h
              exact hret _ _ _ _ hw dX11_cell_88
          · rw [if_pos t19] at h
            refine lv_aload_n hx hb dX11_cell_61 rfl (lv_at hl 0 rfl) ?_
            refine lv_iconst (v := 1) hx hb dX11_cell_62 (by decide) ?_
            refine z_cVl (As := [.int (1 : Int32)]) (rest := []) ⟨hx, hb, hml, hown, hts⟩ hK hw hA (kX11_lost l D g ad (zwI σ 0 0 (0 : Int32)) (1 : Int32) _ rfl) (zcwV 1 hts zgoodIn zw_1030 zw_1032 zw_36 zw_64 zw_1033 rfl rfl hX11_lost ⟨Nat.le_of_ble_eq_true rfl, Nat.le_of_ble_eq_true rfl⟩) zO1_0 rfl hl.1 rfl (Nat.le_of_ble_eq_true rfl) dX11_cell_63 ⟨Nat.zero_le _, Nat.zero_le _⟩ (fun H locs hw => ?_)
            obtain rfl := Option.some.inj h
            exact hret _ _ _ _ hw dX11_cell_66
        · rw [if_neg t16] at h
          refine lv_aload_n hx hb dX11_cell_44 rfl (lv_at hl 0 rfl) ?_
          refine lv_iconst (v := 2) hx hb dX11_cell_45 (by decide) ?_
          refine z_cVl (As := [.int (2 : Int32)]) (rest := []) ⟨hx, hb, hml, hown, hts⟩ hK hw hA (kX11_lost l D g ad (zwI σ 0 0 (0 : Int32)) (2 : Int32) _ rfl) (zcwV 1 hts zgoodIn zw_1030 zw_1032 zw_36 zw_64 zw_1033 rfl rfl hX11_lost ⟨Nat.le_of_ble_eq_true rfl, Nat.le_of_ble_eq_true rfl⟩) zO1_0 rfl hl.1 rfl (Nat.le_of_ble_eq_true rfl) dX11_cell_46 ⟨Nat.zero_le _, Nat.zero_le _⟩ (fun H locs hw => ?_)
          obtain rfl := Option.some.inj h
          exact hret _ _ _ _ hw dX11_cell_49
    · rw [if_pos t2] at h
      refine lv_ldc2 hx hb hown (hts _ zw_1029) dX11_cell_19 ?_
      obtain rfl := Option.some.inj h
      exact hret _ _ _ _ hw dX11_cell_22
set_option maxHeartbeats 4000000 in
set_option maxRecDepth 100000 in
theorem wX11_copy_166 {p : Program} {l : Launch} {e : Env} {s : State} {m : MethodId} {args : Array Value} {below : List Frame} {meth : Method} {c : Code} {A : Nat → Prop} {H0 : Heap} {Q : State → Prop} {D : va_G} {g : zG} {ad : Nat → Nat} (C : zCx p c cX11_copy s args RX11 m 10 A H0 D g) (x1 : Int32) (x2 : Int32) (x3 : Int32) (x4 : Int32) (x5 : Int32) (x7 : Int32) (n : Nat) (a : (Int32 × zSt)) (b : (Int32 × zSt)) (h : zLp (fun a => bX11_copy_166 x1 x2 x3 x4 x5 x7 a.1 a.2) n a = some b) (hk : ∀ (H : Heap) (locs : List Loc) (ls : Array Slot), zH D g 1 ad A H0 b.2 H locs → lv_has ls 10 [(0, .ref (ad 0)), (1, .int x1), (2, .int x2), (3, .int x3), (4, .int x4), (5, .int x5), (7, .int x7), (8, .int b.1)] → W p l e (zRm 2) s m args below meth c H locs 0 0 Q (F0 m 227 ls [])) : ∀ (H : Heap) (locs : List Loc) (ls : Array Slot), zH D g 1 ad A H0 a.2 H locs → lv_has ls 10 [(0, .ref (ad 0)), (1, .int x1), (2, .int x2), (3, .int x3), (4, .int x4), (5, .int x5), (7, .int x7), (8, .int a.1)] → W p l e (zRm 2) s m args below meth c H locs 0 0 Q (F0 m 166 ls []) := by
  obtain ⟨hx, hb, hml, hown, hts, hK, hA⟩ := id C
  refine zLp_walk (P := fun (a : (Int32 × zSt)) => ∀ (H : Heap) (locs : List Loc) (ls : Array Slot), zH D g 1 ad A H0 a.2 H locs → lv_has ls 10 [(0, .ref (ad 0)), (1, .int x1), (2, .int x2), (3, .int x3), (4, .int x4), (5, .int x5), (7, .int x7), (8, .int a.1)] → W p l e (zRm 2) s m args below meth c H locs 0 0 Q (F0 m 166 ls [])) (E := fun (b' : (Int32 × zSt)) => b' = b) ?_ n a b h rfl
  intro a r h hn he H locs ls hw hl
  obtain ⟨x8, σ⟩ := a
  have h : bX11_copy_166 x1 x2 x3 x4 x5 x7 x8 σ = some r := h
  have hl : lv_has ls 10 [(0, .ref (ad 0)), (1, .int x1), (2, .int x2), (3, .int x3), (4, .int x4), (5, .int x5), (7, .int x7), (8, .int x8)] := hl
  have hw : zH D g 1 ad A H0 σ H locs := hw
  unfold bX11_copy_166 at h
  refine lv_iload hx hb dX11_copy_166 (lv_at hl 7 rfl) ?_
  refine lv_iload hx hb dX11_copy_168 (lv_at hl 5 rfl) ?_
  refine lv_icmp_ge (tgt := 227) hx hb dX11_copy_170 (by decide) (fun t1 => ?_) (fun t1 => ?_)
  · rw [if_pos t1] at h
    obtain rfl := Option.some.inj h
    obtain rfl := he _ rfl
    exact hk _ _ _ hw (lv_sub hl [0, 1, 2, 3, 4, 5, 6, 7] rfl)
  · rw [if_neg t1] at h
    refine lv_iload hx hb dX11_copy_173 (lv_at hl 6 rfl) ?_
    refine lv_if_eq (tgt := 188) hx hb dX11_copy_175 (by decide) (fun t2 => ?_) (fun t2 => ?_)
    · rw [if_pos t2] at h
      refine lv_iload hx hb dX11_copy_188 (lv_at hl 7 rfl) ?_
      refine lv_istore (lv' := [(9, .int x8), (0, .ref (ad 0)), (1, .int x1), (2, .int x2), (3, .int x3), (4, .int x4), (5, .int x5), (7, .int x7), (8, .int x8)]) hx hb dX11_copy_190 hl (by decide) rfl (fun ls hl => ?_)
      refine lv_aload_n hx hb dX11_copy_192 rfl (lv_at hl 1 rfl) ?_
      refine z_getc hx hb hts zin_X11 hown hK hw zF1_0_4 (hts _ zw_842) dX11_copy_193 ?_
      refine lv_bipush (v := 120) hx hb dX11_copy_196 (by decide) ?_
      refine lv_iload_n hx hb dX11_copy_198 rfl (lv_at hl 4 rfl) ?_
      refine lv_imul hx hb dX11_copy_199 ?_
      refine lv_iload hx hb dX11_copy_200 (lv_at hl 5 rfl) ?_
      refine lv_iadd hx hb dX11_copy_202 ?_
      refine lv_iload hx hb dX11_copy_203 (lv_at hl 0 rfl) ?_
      refine lv_iadd hx hb dX11_copy_205 ?_
      refine lv_aload_n hx hb dX11_copy_206 rfl (lv_at hl 1 rfl) ?_
      refine z_getc hx hb hts zin_X11 hown hK hw zF1_0_4 (hts _ zw_842) dX11_copy_207 ?_
      refine lv_bipush (v := 120) hx hb dX11_copy_210 (by decide) ?_
      refine lv_iload_n hx hb dX11_copy_212 rfl (lv_at hl 2 rfl) ?_
      refine lv_imul hx hb dX11_copy_213 ?_
      refine lv_iload_n hx hb dX11_copy_214 rfl (lv_at hl 3 rfl) ?_
      refine lv_iadd hx hb dX11_copy_215 ?_
      refine lv_iload hx hb dX11_copy_216 (lv_at hl 0 rfl) ?_
      refine lv_iadd hx hb dX11_copy_218 ?_
      obtain ⟨v3, e4, h⟩ := zbind h
      refine z_iald hx hb hK hw e4 dX11_copy_219 ?_
      obtain ⟨s5, e6, h⟩ := zbind h
      refine z_iast hx hb hK hw e6 dX11_copy_220 (fun H locs hw => ?_)
      refine lv_iinc (v := x8 + 1) (lv' := [(8, .int (x8 + 1)), (9, .int x8), (0, .ref (ad 0)), (1, .int x1), (2, .int x2), (3, .int x3), (4, .int x4), (5, .int x5), (7, .int x7)]) hx hb dX11_copy_221 hl (k := 8) rfl rfl (by decide) rfl (fun ls hl => ?_)
      refine lv_goto (tgt := 166) hx hb dX11_copy_224 (by decide) ?_
      obtain rfl := Option.some.inj h
      exact hn _ rfl _ _ _ hw (lv_sub hl [2, 3, 4, 5, 6, 7, 8, 0] rfl)
    · rw [if_neg t2] at h
      refine lv_iload hx hb dX11_copy_178 (lv_at hl 5 rfl) ?_
      refine lv_iconst (v := 1) hx hb dX11_copy_180 (by decide) ?_
      refine lv_isub hx hb dX11_copy_181 ?_
      refine lv_iload hx hb dX11_copy_182 (lv_at hl 7 rfl) ?_
      refine lv_isub hx hb dX11_copy_184 ?_
      refine lv_goto (tgt := 190) hx hb dX11_copy_185 (by decide) ?_
      refine lv_istore (lv' := [(9, .int ((x5 - (1 : Int32)) - x8)), (0, .ref (ad 0)), (1, .int x1), (2, .int x2), (3, .int x3), (4, .int x4), (5, .int x5), (7, .int x7), (8, .int x8)]) hx hb dX11_copy_190 hl (by decide) rfl (fun ls hl => ?_)
      refine lv_aload_n hx hb dX11_copy_192 rfl (lv_at hl 1 rfl) ?_
      refine z_getc hx hb hts zin_X11 hown hK hw zF1_0_4 (hts _ zw_842) dX11_copy_193 ?_
      refine lv_bipush (v := 120) hx hb dX11_copy_196 (by decide) ?_
      refine lv_iload_n hx hb dX11_copy_198 rfl (lv_at hl 4 rfl) ?_
      refine lv_imul hx hb dX11_copy_199 ?_
      refine lv_iload hx hb dX11_copy_200 (lv_at hl 5 rfl) ?_
      refine lv_iadd hx hb dX11_copy_202 ?_
      refine lv_iload hx hb dX11_copy_203 (lv_at hl 0 rfl) ?_
      refine lv_iadd hx hb dX11_copy_205 ?_
      refine lv_aload_n hx hb dX11_copy_206 rfl (lv_at hl 1 rfl) ?_
      refine z_getc hx hb hts zin_X11 hown hK hw zF1_0_4 (hts _ zw_842) dX11_copy_207 ?_
      refine lv_bipush (v := 120) hx hb dX11_copy_210 (by decide) ?_
      refine lv_iload_n hx hb dX11_copy_212 rfl (lv_at hl 2 rfl) ?_
      refine lv_imul hx hb dX11_copy_213 ?_
      refine lv_iload_n hx hb dX11_copy_214 rfl (lv_at hl 3 rfl) ?_
      refine lv_iadd hx hb dX11_copy_215 ?_
      refine lv_iload hx hb dX11_copy_216 (lv_at hl 0 rfl) ?_
      refine lv_iadd hx hb dX11_copy_218 ?_
      obtain ⟨v7, e8, h⟩ := zbind h
      refine z_iald hx hb hK hw e8 dX11_copy_219 ?_
      obtain ⟨s9, e10, h⟩ := zbind h
      refine z_iast hx hb hK hw e10 dX11_copy_220 (fun H locs hw => ?_)
      refine lv_iinc (v := x8 + 1) (lv' := [(8, .int (x8 + 1)), (9, .int ((x5 - (1 : Int32)) - x8)), (0, .ref (ad 0)), (1, .int x1), (2, .int x2), (3, .int x3), (4, .int x4), (5, .int x5), (7, .int x7)]) hx hb dX11_copy_221 hl (k := 8) rfl rfl (by decide) rfl (fun ls hl => ?_)
      refine lv_goto (tgt := 166) hx hb dX11_copy_224 (by decide) ?_
      obtain rfl := Option.some.inj h
      exact hn _ rfl _ _ _ hw (lv_sub hl [2, 3, 4, 5, 6, 7, 8, 0] rfl)
theorem hX11_copy : yX11_copy.cls = RX11 ∧ yX11_copy.cls ≠ "java/lang/invoke/MethodHandle" ∧ yX11_copy.cls ≠ "java/lang/invoke/VarHandle" ∧ (parseMethodDescriptor yX11_copy.desc).map (fun d => d.parameters.length) = some 5 := by decide +kernel
set_option maxHeartbeats 4000000 in
set_option maxRecDepth 100000 in
theorem kX11_copy (l : Launch) (D : va_G) (g : zG) (ad : Nat → Nat) (σ : zSt) (x1 : Int32) (x2 : Int32) (x3 : Int32) (x4 : Int32) (x5 : Int32) (o : Int32 × zSt) (h : fX11_copy σ x1 x2 x3 x4 x5 = some o) : zMi l D g 1 ad yX11_copy (Cond.code yX11_copy cX11_copy 10 (some .int) :: zws) (zRm 2) [.ref (ad 0), .int x1, .int x2, .int x3, .int x4, .int x5] σ o.1 o.2 := by
  refine z_enter_i (by decide) (Nat.le_of_ble_eq_true rfl) ?_
  intro p e s m below meth c A ls Q C hw hl hret
  obtain ⟨hx, hb, hml, hown, hts, hK, hA⟩ := id C
  have hown : s.vm.findClass RX11 = some m.cls := hown
  have C : zCx p c cX11_copy s _ RX11 m 10 A s.heap D g := C
  have hl : lv_has ls 10 [(0, .ref (ad 0)), (1, .int x1), (2, .int x2), (3, .int x3), (4, .int x4), (5, .int x5)] := hl
  unfold fX11_copy at h
  refine lv_aload_n hx hb dX11_copy_0 rfl (lv_at hl 0 rfl) ?_
  refine lv_iconst (v := 0) hx hb dX11_copy_1 (by decide) ?_
  refine z_puti hx hb hts zin_X11 tyX11_ok nmX11 hown hK hw zF1_0_0 (hts _ zw_838) zY1_0_0 dX11_copy_2 (fun H locs hw => ?_)
  refine lv_iload_n hx hb dX11_copy_5 rfl (lv_at hl 1 rfl) ?_
  refine z_cSi (As := [.int x1]) (rest := []) ⟨hx, hb, hml, hown, hts⟩ hK hw hA (kX11_isSheet l D g ad (zwI σ 0 0 (0 : Int32)) x1 _ rfl) (zcwS 1 hts zgoodIn zw_927 zw_928 zw_64 zw_929 rfl rfl hX11_isSheet ⟨Nat.le_of_ble_eq_true rfl, Nat.le_of_ble_eq_true rfl⟩) rfl hl.1 rfl (Nat.le_of_ble_eq_true rfl) dX11_copy_6 ⟨Nat.zero_le _, Nat.zero_le _⟩ (fun H locs hw => ?_)
  refine lv_if_eq (tgt := 19) hx hb dX11_copy_9 (by decide) (fun t1 => ?_) (fun t1 => ?_)
  · rw [if_pos t1] at h
    refine lv_iconst (v := (-1)) hx hb dX11_copy_19 (by decide) ?_
    obtain rfl := Option.some.inj h
    exact hret _ _ _ _ hw rfl dX11_copy_20
  · rw [if_neg t1] at h
    refine lv_iload_n hx hb dX11_copy_12 rfl (lv_at hl 3 rfl) ?_
    refine z_cSi (As := [.int x3]) (rest := []) ⟨hx, hb, hml, hown, hts⟩ hK hw hA (kX11_isSheet l D g ad (zwI σ 0 0 (0 : Int32)) x3 _ rfl) (zcwS 1 hts zgoodIn zw_927 zw_928 zw_64 zw_929 rfl rfl hX11_isSheet ⟨Nat.le_of_ble_eq_true rfl, Nat.le_of_ble_eq_true rfl⟩) rfl hl.1 rfl (Nat.le_of_ble_eq_true rfl) dX11_copy_13 ⟨Nat.zero_le _, Nat.zero_le _⟩ (fun H locs hw => ?_)
    refine lv_if_ne (tgt := 21) hx hb dX11_copy_16 (by decide) (fun t2 => ?_) (fun t2 => ?_)
    · rw [if_neg t2] at h
      refine lv_aload_n hx hb dX11_copy_21 rfl (lv_at hl 0 rfl) ?_
      refine z_getc hx hb hts zin_X11 hown hK hw zF1_0_2 (hts _ zw_840) dX11_copy_22 ?_
      refine lv_iload_n hx hb dX11_copy_25 rfl (lv_at hl 1 rfl) ?_
      obtain ⟨v3, e4, h⟩ := zbind h
      refine z_iald hx hb hK hw e4 dX11_copy_26 ?_
      refine lv_bipush (v := (-9)) hx hb dX11_copy_27 (by decide) ?_
      refine lv_icmp_eq (tgt := 43) hx hb dX11_copy_29 (by decide) (fun t5 => ?_) (fun t5 => ?_)
      · rw [if_pos t5] at h
        refine lv_aload_n hx hb dX11_copy_43 rfl (lv_at hl 0 rfl) ?_
        refine lv_iconst (v := 1) hx hb dX11_copy_44 (by decide) ?_
        refine z_cVi (As := [.int (1 : Int32)]) (rest := []) ⟨hx, hb, hml, hown, hts⟩ hK hw hA (kX11_fails l D g ad (zwI σ 0 0 (0 : Int32)) (1 : Int32) _ rfl) (zcwV 1 hts zgoodIn zw_940 zw_942 zw_25 zw_64 zw_943 rfl rfl hX11_fails ⟨Nat.le_of_ble_eq_true rfl, Nat.le_of_ble_eq_true rfl⟩) zO1_0 rfl hl.1 rfl (Nat.le_of_ble_eq_true rfl) dX11_copy_45 ⟨Nat.zero_le _, Nat.zero_le _⟩ (fun H locs hw => ?_)
        obtain rfl := Option.some.inj h
        exact hret _ _ _ _ hw rfl dX11_copy_48
      · rw [if_neg t5] at h
        refine lv_aload_n hx hb dX11_copy_32 rfl (lv_at hl 0 rfl) ?_
        refine z_getc hx hb hts zin_X11 hown hK hw zF1_0_2 (hts _ zw_840) dX11_copy_33 ?_
        refine lv_iload_n hx hb dX11_copy_36 rfl (lv_at hl 3 rfl) ?_
        obtain ⟨v6, e7, h⟩ := zbind h
        refine z_iald hx hb hK hw e7 dX11_copy_37 ?_
        refine lv_bipush (v := (-9)) hx hb dX11_copy_38 (by decide) ?_
        refine lv_icmp_ne (tgt := 49) hx hb dX11_copy_40 (by decide) (fun t8 => ?_) (fun t8 => ?_)
        · rw [if_neg t8] at h
          refine lv_aload_n hx hb dX11_copy_49 rfl (lv_at hl 0 rfl) ?_
          refine z_getc hx hb hts zin_X11 hown hK hw zF1_0_2 (hts _ zw_840) dX11_copy_50 ?_
          refine lv_iload_n hx hb dX11_copy_53 rfl (lv_at hl 1 rfl) ?_
          obtain ⟨v9, e10, h⟩ := zbind h
          refine z_iald hx hb hK hw e10 dX11_copy_54 ?_
          refine lv_aload_n hx hb dX11_copy_55 rfl (lv_at hl 0 rfl) ?_
          refine z_getc hx hb hts zin_X11 hown hK hw zF1_0_2 (hts _ zw_840) dX11_copy_56 ?_
          refine lv_iload_n hx hb dX11_copy_59 rfl (lv_at hl 3 rfl) ?_
          obtain ⟨v11, e12, h⟩ := zbind h
          refine z_iald hx hb hK hw e12 dX11_copy_60 ?_
          refine lv_icmp_eq (tgt := 70) hx hb dX11_copy_61 (by decide) (fun t13 => ?_) (fun t13 => ?_)
          · rw [if_pos t13] at h
            refine lv_iload_n hx hb dX11_copy_70 rfl (lv_at hl 2 rfl) ?_
            refine lv_if_lt (tgt := 109) hx hb dX11_copy_71 (by decide) (fun t14 => ?_) (fun t14 => ?_)
            · rw [if_pos t14] at h
              refine lv_iconst (v := 0) hx hb dX11_copy_109 (by decide) ?_
              refine lv_istore (lv' := [(6, .int (0 : Int32)), (0, .ref (ad 0)), (1, .int x1), (2, .int x2), (3, .int x3), (4, .int x4), (5, .int x5)]) hx hb dX11_copy_110 hl (by decide) rfl (fun ls hl => ?_)
              refine lv_iload hx hb dX11_copy_112 (lv_at hl 0 rfl) ?_
              refine lv_if_eq (tgt := 144) hx hb dX11_copy_114 (by decide) (fun t15 => ?_) (fun t15 => ?_)
              · refine lv_aload_n hx hb dX11_copy_144 rfl (lv_at hl 1 rfl) ?_
                refine lv_iconst (v := 3) hx hb dX11_copy_145 (by decide) ?_
                refine z_cVi (As := [.int (3 : Int32)]) (rest := []) ⟨hx, hb, hml, hown, hts⟩ hK hw hA (kX11_fails l D g ad (zwI σ 0 0 (0 : Int32)) (3 : Int32) _ rfl) (zcwV 1 hts zgoodIn zw_940 zw_942 zw_25 zw_64 zw_943 rfl rfl hX11_fails ⟨Nat.le_of_ble_eq_true rfl, Nat.le_of_ble_eq_true rfl⟩) zO1_0 rfl hl.1 rfl (Nat.le_of_ble_eq_true rfl) dX11_copy_146 ⟨Nat.zero_le _, Nat.zero_le _⟩ (fun H locs hw => ?_)
                obtain rfl := Option.some.inj h
                exact hret _ _ _ _ hw rfl dX11_copy_149
              · exact absurd t15 (by decide)
            · rw [if_neg t14] at h
              refine lv_iload hx hb dX11_copy_74 (lv_at hl 4 rfl) ?_
              refine lv_if_lt (tgt := 109) hx hb dX11_copy_76 (by decide) (fun t16 => ?_) (fun t16 => ?_)
              · rw [if_pos t16] at h
                refine lv_iconst (v := 0) hx hb dX11_copy_109 (by decide) ?_
                refine lv_istore (lv' := [(6, .int (0 : Int32)), (0, .ref (ad 0)), (1, .int x1), (2, .int x2), (3, .int x3), (4, .int x4), (5, .int x5)]) hx hb dX11_copy_110 hl (by decide) rfl (fun ls hl => ?_)
                refine lv_iload hx hb dX11_copy_112 (lv_at hl 0 rfl) ?_
                refine lv_if_eq (tgt := 144) hx hb dX11_copy_114 (by decide) (fun t17 => ?_) (fun t17 => ?_)
                · refine lv_aload_n hx hb dX11_copy_144 rfl (lv_at hl 1 rfl) ?_
                  refine lv_iconst (v := 3) hx hb dX11_copy_145 (by decide) ?_
                  refine z_cVi (As := [.int (3 : Int32)]) (rest := []) ⟨hx, hb, hml, hown, hts⟩ hK hw hA (kX11_fails l D g ad (zwI σ 0 0 (0 : Int32)) (3 : Int32) _ rfl) (zcwV 1 hts zgoodIn zw_940 zw_942 zw_25 zw_64 zw_943 rfl rfl hX11_fails ⟨Nat.le_of_ble_eq_true rfl, Nat.le_of_ble_eq_true rfl⟩) zO1_0 rfl hl.1 rfl (Nat.le_of_ble_eq_true rfl) dX11_copy_146 ⟨Nat.zero_le _, Nat.zero_le _⟩ (fun H locs hw => ?_)
                  obtain rfl := Option.some.inj h
                  exact hret _ _ _ _ hw rfl dX11_copy_149
                · exact absurd t17 (by decide)
              · rw [if_neg t16] at h
                refine lv_iload hx hb dX11_copy_79 (lv_at hl 5 rfl) ?_
                refine lv_if_lt (tgt := 109) hx hb dX11_copy_81 (by decide) (fun t18 => ?_) (fun t18 => ?_)
                · rw [if_pos t18] at h
                  refine lv_iconst (v := 0) hx hb dX11_copy_109 (by decide) ?_
                  refine lv_istore (lv' := [(6, .int (0 : Int32)), (0, .ref (ad 0)), (1, .int x1), (2, .int x2), (3, .int x3), (4, .int x4), (5, .int x5)]) hx hb dX11_copy_110 hl (by decide) rfl (fun ls hl => ?_)
                  refine lv_iload hx hb dX11_copy_112 (lv_at hl 0 rfl) ?_
                  refine lv_if_eq (tgt := 144) hx hb dX11_copy_114 (by decide) (fun t19 => ?_) (fun t19 => ?_)
                  · refine lv_aload_n hx hb dX11_copy_144 rfl (lv_at hl 1 rfl) ?_
                    refine lv_iconst (v := 3) hx hb dX11_copy_145 (by decide) ?_
                    refine z_cVi (As := [.int (3 : Int32)]) (rest := []) ⟨hx, hb, hml, hown, hts⟩ hK hw hA (kX11_fails l D g ad (zwI σ 0 0 (0 : Int32)) (3 : Int32) _ rfl) (zcwV 1 hts zgoodIn zw_940 zw_942 zw_25 zw_64 zw_943 rfl rfl hX11_fails ⟨Nat.le_of_ble_eq_true rfl, Nat.le_of_ble_eq_true rfl⟩) zO1_0 rfl hl.1 rfl (Nat.le_of_ble_eq_true rfl) dX11_copy_146 ⟨Nat.zero_le _, Nat.zero_le _⟩ (fun H locs hw => ?_)
                    obtain rfl := Option.some.inj h
                    exact hret _ _ _ _ hw rfl dX11_copy_149
                  · exact absurd t19 (by decide)
                · rw [if_neg t18] at h
                  refine lv_iload_n hx hb dX11_copy_84 rfl (lv_at hl 2 rfl) ?_
                  refine lv_aload_n hx hb dX11_copy_85 rfl (lv_at hl 0 rfl) ?_
                  refine z_getc hx hb hts zin_X11 hown hK hw zF1_0_3 (hts _ zw_841) dX11_copy_86 ?_
                  refine lv_iload_n hx hb dX11_copy_89 rfl (lv_at hl 1 rfl) ?_
                  obtain ⟨v20, e21, h⟩ := zbind h
                  refine z_iald hx hb hK hw e21 dX11_copy_90 ?_
                  refine lv_icmp_gt (tgt := 109) hx hb dX11_copy_91 (by decide) (fun t22 => ?_) (fun t22 => ?_)
                  · rw [if_pos t22] at h
                    refine lv_iconst (v := 0) hx hb dX11_copy_109 (by decide) ?_
                    refine lv_istore (lv' := [(6, .int (0 : Int32)), (0, .ref (ad 0)), (1, .int x1), (2, .int x2), (3, .int x3), (4, .int x4), (5, .int x5)]) hx hb dX11_copy_110 hl (by decide) rfl (fun ls hl => ?_)
                    refine lv_iload hx hb dX11_copy_112 (lv_at hl 0 rfl) ?_
                    refine lv_if_eq (tgt := 144) hx hb dX11_copy_114 (by decide) (fun t23 => ?_) (fun t23 => ?_)
                    · refine lv_aload_n hx hb dX11_copy_144 rfl (lv_at hl 1 rfl) ?_
                      refine lv_iconst (v := 3) hx hb dX11_copy_145 (by decide) ?_
                      refine z_cVi (As := [.int (3 : Int32)]) (rest := []) ⟨hx, hb, hml, hown, hts⟩ hK hw hA (kX11_fails l D g ad (zwI σ 0 0 (0 : Int32)) (3 : Int32) _ rfl) (zcwV 1 hts zgoodIn zw_940 zw_942 zw_25 zw_64 zw_943 rfl rfl hX11_fails ⟨Nat.le_of_ble_eq_true rfl, Nat.le_of_ble_eq_true rfl⟩) zO1_0 rfl hl.1 rfl (Nat.le_of_ble_eq_true rfl) dX11_copy_146 ⟨Nat.zero_le _, Nat.zero_le _⟩ (fun H locs hw => ?_)
                      obtain rfl := Option.some.inj h
                      exact hret _ _ _ _ hw rfl dX11_copy_149
                    · exact absurd t23 (by decide)
                  · rw [if_neg t22] at h
                    refine lv_iload hx hb dX11_copy_94 (lv_at hl 4 rfl) ?_
                    refine lv_aload_n hx hb dX11_copy_96 rfl (lv_at hl 0 rfl) ?_
                    refine z_getc hx hb hts zin_X11 hown hK hw zF1_0_3 (hts _ zw_841) dX11_copy_97 ?_
                    refine lv_iload_n hx hb dX11_copy_100 rfl (lv_at hl 3 rfl) ?_
                    obtain ⟨v24, e25, h⟩ := zbind h
                    refine z_iald hx hb hK hw e25 dX11_copy_101 ?_
                    refine lv_icmp_gt (tgt := 109) hx hb dX11_copy_102 (by decide) (fun t26 => ?_) (fun t26 => ?_)
                    · rw [if_pos t26] at h
                      refine lv_iconst (v := 0) hx hb dX11_copy_109 (by decide) ?_
                      refine lv_istore (lv' := [(6, .int (0 : Int32)), (0, .ref (ad 0)), (1, .int x1), (2, .int x2), (3, .int x3), (4, .int x4), (5, .int x5)]) hx hb dX11_copy_110 hl (by decide) rfl (fun ls hl => ?_)
                      refine lv_iload hx hb dX11_copy_112 (lv_at hl 0 rfl) ?_
                      refine lv_if_eq (tgt := 144) hx hb dX11_copy_114 (by decide) (fun t27 => ?_) (fun t27 => ?_)
                      · refine lv_aload_n hx hb dX11_copy_144 rfl (lv_at hl 1 rfl) ?_
                        refine lv_iconst (v := 3) hx hb dX11_copy_145 (by decide) ?_
                        refine z_cVi (As := [.int (3 : Int32)]) (rest := []) ⟨hx, hb, hml, hown, hts⟩ hK hw hA (kX11_fails l D g ad (zwI σ 0 0 (0 : Int32)) (3 : Int32) _ rfl) (zcwV 1 hts zgoodIn zw_940 zw_942 zw_25 zw_64 zw_943 rfl rfl hX11_fails ⟨Nat.le_of_ble_eq_true rfl, Nat.le_of_ble_eq_true rfl⟩) zO1_0 rfl hl.1 rfl (Nat.le_of_ble_eq_true rfl) dX11_copy_146 ⟨Nat.zero_le _, Nat.zero_le _⟩ (fun H locs hw => ?_)
                        obtain rfl := Option.some.inj h
                        exact hret _ _ _ _ hw rfl dX11_copy_149
                      · exact absurd t27 (by decide)
                    · rw [if_neg t26] at h
                      refine lv_iconst (v := 1) hx hb dX11_copy_105 (by decide) ?_
                      refine lv_goto (tgt := 110) hx hb dX11_copy_106 (by decide) ?_
                      refine lv_istore (lv' := [(6, .int (1 : Int32)), (0, .ref (ad 0)), (1, .int x1), (2, .int x2), (3, .int x3), (4, .int x4), (5, .int x5)]) hx hb dX11_copy_110 hl (by decide) rfl (fun ls hl => ?_)
                      refine lv_iload hx hb dX11_copy_112 (lv_at hl 0 rfl) ?_
                      refine lv_if_eq (tgt := 144) hx hb dX11_copy_114 (by decide) (fun t28 => ?_) (fun t28 => ?_)
                      · exact absurd t28 (by decide)
                      · refine lv_iload hx hb dX11_copy_117 (lv_at hl 6 rfl) ?_
                        refine lv_aload_n hx hb dX11_copy_119 rfl (lv_at hl 1 rfl) ?_
                        refine z_getc hx hb hts zin_X11 hown hK hw zF1_0_3 (hts _ zw_841) dX11_copy_120 ?_
                        refine lv_iload_n hx hb dX11_copy_123 rfl (lv_at hl 2 rfl) ?_
                        obtain ⟨v29, e30, h⟩ := zbind h
                        refine z_iald hx hb hK hw e30 dX11_copy_124 ?_
                        refine lv_iload_n hx hb dX11_copy_125 rfl (lv_at hl 3 rfl) ?_
                        refine lv_isub hx hb dX11_copy_126 ?_
                        refine lv_icmp_gt (tgt := 144) hx hb dX11_copy_127 (by decide) (fun t31 => ?_) (fun t31 => ?_)
                        · rw [if_pos t31] at h
                          refine lv_aload_n hx hb dX11_copy_144 rfl (lv_at hl 1 rfl) ?_
                          refine lv_iconst (v := 3) hx hb dX11_copy_145 (by decide) ?_
                          refine z_cVi (As := [.int (3 : Int32)]) (rest := []) ⟨hx, hb, hml, hown, hts⟩ hK hw hA (kX11_fails l D g ad (zwI σ 0 0 (0 : Int32)) (3 : Int32) _ rfl) (zcwV 1 hts zgoodIn zw_940 zw_942 zw_25 zw_64 zw_943 rfl rfl hX11_fails ⟨Nat.le_of_ble_eq_true rfl, Nat.le_of_ble_eq_true rfl⟩) zO1_0 rfl hl.1 rfl (Nat.le_of_ble_eq_true rfl) dX11_copy_146 ⟨Nat.zero_le _, Nat.zero_le _⟩ (fun H locs hw => ?_)
                          obtain rfl := Option.some.inj h
                          exact hret _ _ _ _ hw rfl dX11_copy_149
                        · rw [if_neg t31] at h
                          refine lv_iload hx hb dX11_copy_130 (lv_at hl 6 rfl) ?_
                          refine lv_aload_n hx hb dX11_copy_132 rfl (lv_at hl 1 rfl) ?_
                          refine z_getc hx hb hts zin_X11 hown hK hw zF1_0_3 (hts _ zw_841) dX11_copy_133 ?_
                          refine lv_iload_n hx hb dX11_copy_136 rfl (lv_at hl 4 rfl) ?_
                          obtain ⟨v32, e33, h⟩ := zbind h
                          refine z_iald hx hb hK hw e33 dX11_copy_137 ?_
                          refine lv_iload hx hb dX11_copy_138 (lv_at hl 5 rfl) ?_
                          refine lv_isub hx hb dX11_copy_140 ?_
                          refine lv_icmp_le (tgt := 150) hx hb dX11_copy_141 (by decide) (fun t34 => ?_) (fun t34 => ?_)
                          · rw [if_pos t34] at h
                            refine lv_iload_n hx hb dX11_copy_150 rfl (lv_at hl 3 rfl) ?_
                            refine lv_iload hx hb dX11_copy_151 (lv_at hl 5 rfl) ?_
                            refine lv_icmp_ge (tgt := 160) hx hb dX11_copy_153 (by decide) (fun t35 => ?_) (fun t35 => ?_)
                            · rw [if_pos t35] at h
                              refine lv_iconst (v := 0) hx hb dX11_copy_160 (by decide) ?_
                              refine lv_istore (lv' := [(7, .int (0 : Int32)), (6, .int (1 : Int32)), (0, .ref (ad 0)), (1, .int x1), (2, .int x2), (3, .int x3), (4, .int x4), (5, .int x5)]) hx hb dX11_copy_161 hl (by decide) rfl (fun ls hl => ?_)
                              refine lv_iconst (v := 0) hx hb dX11_copy_163 (by decide) ?_
                              refine lv_istore (lv' := [(8, .int (0 : Int32)), (7, .int (0 : Int32)), (6, .int (1 : Int32)), (0, .ref (ad 0)), (1, .int x1), (2, .int x2), (3, .int x3), (4, .int x4), (5, .int x5)]) hx hb dX11_copy_164 hl (by decide) rfl (fun ls hl => ?_)
                              obtain ⟨b36, e37, h⟩ := zbind h
                              refine wX11_copy_166 C x1 x2 x3 x4 x5 (0 : Int32) zFU ((0 : Int32), zwI σ 0 0 (0 : Int32)) b36 e37 (fun H locs ls hw hl => ?_) _ _ _ hw (lv_sub hl [3, 4, 5, 6, 7, 8, 1, 0] rfl)
                              have hl : lv_has ls 10 [(0, .ref (ad 0)), (1, .int x1), (2, .int x2), (3, .int x3), (4, .int x4), (5, .int x5), (7, .int (0 : Int32)), (8, .int b36.1)] := hl
                              refine lv_iload hx hb dX11_copy_227 (lv_at hl 5 rfl) ?_
                              obtain rfl := Option.some.inj h
                              exact hret _ _ _ _ hw rfl dX11_copy_229
                            · rw [if_neg t35] at h
                              refine lv_iconst (v := 1) hx hb dX11_copy_156 (by decide) ?_
                              refine lv_goto (tgt := 161) hx hb dX11_copy_157 (by decide) ?_
                              refine lv_istore (lv' := [(7, .int (1 : Int32)), (6, .int (1 : Int32)), (0, .ref (ad 0)), (1, .int x1), (2, .int x2), (3, .int x3), (4, .int x4), (5, .int x5)]) hx hb dX11_copy_161 hl (by decide) rfl (fun ls hl => ?_)
                              refine lv_iconst (v := 0) hx hb dX11_copy_163 (by decide) ?_
                              refine lv_istore (lv' := [(8, .int (0 : Int32)), (7, .int (1 : Int32)), (6, .int (1 : Int32)), (0, .ref (ad 0)), (1, .int x1), (2, .int x2), (3, .int x3), (4, .int x4), (5, .int x5)]) hx hb dX11_copy_164 hl (by decide) rfl (fun ls hl => ?_)
                              obtain ⟨b38, e39, h⟩ := zbind h
                              refine wX11_copy_166 C x1 x2 x3 x4 x5 (1 : Int32) zFU ((0 : Int32), zwI σ 0 0 (0 : Int32)) b38 e39 (fun H locs ls hw hl => ?_) _ _ _ hw (lv_sub hl [3, 4, 5, 6, 7, 8, 1, 0] rfl)
                              have hl : lv_has ls 10 [(0, .ref (ad 0)), (1, .int x1), (2, .int x2), (3, .int x3), (4, .int x4), (5, .int x5), (7, .int (1 : Int32)), (8, .int b38.1)] := hl
                              refine lv_iload hx hb dX11_copy_227 (lv_at hl 5 rfl) ?_
                              obtain rfl := Option.some.inj h
                              exact hret _ _ _ _ hw rfl dX11_copy_229
                          · rw [if_neg t34] at h
                            refine lv_aload_n hx hb dX11_copy_144 rfl (lv_at hl 1 rfl) ?_
                            refine lv_iconst (v := 3) hx hb dX11_copy_145 (by decide) ?_
                            refine z_cVi (As := [.int (3 : Int32)]) (rest := []) ⟨hx, hb, hml, hown, hts⟩ hK hw hA (kX11_fails l D g ad (zwI σ 0 0 (0 : Int32)) (3 : Int32) _ rfl) (zcwV 1 hts zgoodIn zw_940 zw_942 zw_25 zw_64 zw_943 rfl rfl hX11_fails ⟨Nat.le_of_ble_eq_true rfl, Nat.le_of_ble_eq_true rfl⟩) zO1_0 rfl hl.1 rfl (Nat.le_of_ble_eq_true rfl) dX11_copy_146 ⟨Nat.zero_le _, Nat.zero_le _⟩ (fun H locs hw => ?_)
                            obtain rfl := Option.some.inj h
                            exact hret _ _ _ _ hw rfl dX11_copy_149
          · rw [if_neg t13] at h
            refine lv_aload_n hx hb dX11_copy_64 rfl (lv_at hl 0 rfl) ?_
            refine lv_iconst (v := 2) hx hb dX11_copy_65 (by decide) ?_
            refine z_cVi (As := [.int (2 : Int32)]) (rest := []) ⟨hx, hb, hml, hown, hts⟩ hK hw hA (kX11_fails l D g ad (zwI σ 0 0 (0 : Int32)) (2 : Int32) _ rfl) (zcwV 1 hts zgoodIn zw_940 zw_942 zw_25 zw_64 zw_943 rfl rfl hX11_fails ⟨Nat.le_of_ble_eq_true rfl, Nat.le_of_ble_eq_true rfl⟩) zO1_0 rfl hl.1 rfl (Nat.le_of_ble_eq_true rfl) dX11_copy_66 ⟨Nat.zero_le _, Nat.zero_le _⟩ (fun H locs hw => ?_)
            obtain rfl := Option.some.inj h
            exact hret _ _ _ _ hw rfl dX11_copy_69
        · rw [if_pos t8] at h
          refine lv_aload_n hx hb dX11_copy_43 rfl (lv_at hl 0 rfl) ?_
          refine lv_iconst (v := 1) hx hb dX11_copy_44 (by decide) ?_
          refine z_cVi (As := [.int (1 : Int32)]) (rest := []) ⟨hx, hb, hml, hown, hts⟩ hK hw hA (kX11_fails l D g ad (zwI σ 0 0 (0 : Int32)) (1 : Int32) _ rfl) (zcwV 1 hts zgoodIn zw_940 zw_942 zw_25 zw_64 zw_943 rfl rfl hX11_fails ⟨Nat.le_of_ble_eq_true rfl, Nat.le_of_ble_eq_true rfl⟩) zO1_0 rfl hl.1 rfl (Nat.le_of_ble_eq_true rfl) dX11_copy_45 ⟨Nat.zero_le _, Nat.zero_le _⟩ (fun H locs hw => ?_)
          obtain rfl := Option.some.inj h
          exact hret _ _ _ _ hw rfl dX11_copy_48
    · rw [if_pos t2] at h
      refine lv_iconst (v := (-1)) hx hb dX11_copy_19 (by decide) ?_
      obtain rfl := Option.some.inj h
      exact hret _ _ _ _ hw rfl dX11_copy_20
theorem hX11_begins : yX11_begins.cls = RX11 ∧ yX11_begins.cls ≠ "java/lang/invoke/MethodHandle" ∧ yX11_begins.cls ≠ "java/lang/invoke/VarHandle" ∧ (parseMethodDescriptor yX11_begins.desc).map (fun d => d.parameters.length) = some 1 := by decide +kernel
set_option maxHeartbeats 4000000 in
set_option maxRecDepth 100000 in
theorem kX11_begins (l : Launch) (D : va_G) (g : zG) (ad : Nat → Nat) (σ : zSt) (x1 : Int32) (o : zSt) (h : fX11_begins σ x1 = o) : zMv l D g 1 ad yX11_begins (Cond.code yX11_begins cX11_begins 2 (none : Option Jvm.ClassFile.FieldType) :: zws) (zRm 0) [.ref (ad 0), .int x1] σ o := by
  refine z_enter_v (by decide) (Nat.le_of_ble_eq_true rfl) ?_
  intro p e s m below meth c A ls Q C hw hl hret
  obtain ⟨hx, hb, hml, hown, hts, hK, hA⟩ := id C
  have hown : s.vm.findClass RX11 = some m.cls := hown
  have C : zCx p c cX11_begins s _ RX11 m 2 A s.heap D g := C
  have hl : lv_has ls 2 [(0, .ref (ad 0)), (1, .int x1)] := hl
  unfold fX11_begins at h
  refine lv_aload_n hx hb dX11_begins_0 rfl (lv_at hl 0 rfl) ?_
  refine lv_bipush (v := 31) hx hb dX11_begins_1 (by decide) ?_
  refine lv_aload_n hx hb dX11_begins_3 rfl (lv_at hl 0 rfl) ?_
  refine z_geti hx hb hts zin_X11 hown hK hw zF1_0_1 (hts _ zw_839) dX11_begins_4 ?_
  refine lv_imul hx hb dX11_begins_7 ?_
  refine lv_iload_n hx hb dX11_begins_8 rfl (lv_at hl 1 rfl) ?_
  refine lv_iadd hx hb dX11_begins_9 ?_
  refine z_puti hx hb hts zin_X11 tyX11_ok nmX11 hown hK hw zF1_0_1 (hts _ zw_839) zY1_0_1 dX11_begins_10 (fun H locs hw => ?_)
  subst h
  exact hret _ _ _ _ hw dX11_begins_13
theorem hX11_tell : yX11_tell.cls = RX11 ∧ yX11_tell.cls ≠ "java/lang/invoke/MethodHandle" ∧ yX11_tell.cls ≠ "java/lang/invoke/VarHandle" ∧ (parseMethodDescriptor yX11_tell.desc).map (fun d => d.parameters.length) = some 1 := by decide +kernel
set_option maxHeartbeats 4000000 in
set_option maxRecDepth 100000 in
theorem kX11_tell (l : Launch) (D : va_G) (g : zG) (ad : Nat → Nat) (σ : zSt) (x1 : Int32) (o : Int32 × zSt) (h : fX11_tell σ x1 = some o) : zMi l D g 1 ad yX11_tell (Cond.code yX11_tell cX11_tell 3 (some .int) :: zws) (zRm 1) [.ref (ad 0), .int x1] σ o.1 o.2 := by
  refine z_enter_i (by decide) (Nat.le_of_ble_eq_true rfl) ?_
  intro p e s m below meth c A ls Q C hw hl hret
  obtain ⟨hx, hb, hml, hown, hts, hK, hA⟩ := id C
  have hown : s.vm.findClass RX11 = some m.cls := hown
  have C : zCx p c cX11_tell s _ RX11 m 3 A s.heap D g := C
  have hl : lv_has ls 3 [(0, .ref (ad 0)), (1, .int x1)] := hl
  unfold fX11_tell at h
  refine lv_aload_n hx hb dX11_tell_0 rfl (lv_at hl 0 rfl) ?_
  refine lv_iload_n hx hb dX11_tell_1 rfl (lv_at hl 1 rfl) ?_
  refine z_cVi (As := [.int x1]) (rest := []) ⟨hx, hb, hml, hown, hts⟩ hK hw hA (kX11_isInterpreter l D g ad σ x1 _ rfl) (zcwV 1 hts zgoodIn zw_1001 zw_1003 zw_33 zw_64 zw_1004 rfl rfl hX11_isInterpreter ⟨Nat.le_of_ble_eq_true rfl, Nat.le_of_ble_eq_true rfl⟩) zO1_0 rfl hl.1 rfl (Nat.le_of_ble_eq_true rfl) dX11_tell_2 ⟨Nat.zero_le _, Nat.zero_le _⟩ (fun H locs hw => ?_)
  refine lv_if_ne (tgt := 10) hx hb dX11_tell_5 (by decide) (fun t1 => ?_) (fun t1 => ?_)
  · rw [if_neg t1] at h
    refine lv_aload_n hx hb dX11_tell_10 rfl (lv_at hl 0 rfl) ?_
    refine z_getc hx hb hts zin_X11 hown hK hw zF1_0_13 (hts _ zw_851) dX11_tell_11 ?_
    refine lv_iload_n hx hb dX11_tell_14 rfl (lv_at hl 1 rfl) ?_
    obtain ⟨v2, e3, h⟩ := zbind h
    refine z_iald hx hb hK hw e3 dX11_tell_15 ?_
    refine lv_istore_n (lv' := [(2, .int v2), (0, .ref (ad 0)), (1, .int x1)]) hx hb dX11_tell_16 rfl hl (by decide) rfl (fun ls hl => ?_)
    refine lv_aload_n hx hb dX11_tell_17 rfl (lv_at hl 1 rfl) ?_
    refine z_getc hx hb hts zin_X11 hown hK hw zF1_0_12 (hts _ zw_850) dX11_tell_18 ?_
    refine lv_iload_n hx hb dX11_tell_21 rfl (lv_at hl 2 rfl) ?_
    obtain ⟨v4, e5, h⟩ := zbind h
    refine z_iald hx hb hK hw e5 dX11_tell_22 ?_
    by_cases t6 : v4 = (1 : Int32)
    · rw [if_pos t6] at h
      refine lv_lookup (tgt := 48) (off := 25) hx hb dX11_tell_23 (by decide) (by first | (rw [t6]; done) | (rw [t6]; rfl)) (by decide) ?_
      refine lv_aload_n hx hb dX11_tell_48 rfl (lv_at hl 1 rfl) ?_
      refine lv_iconst (v := 2) hx hb dX11_tell_49 (by decide) ?_
      refine z_cVv (As := [.int (2 : Int32)]) (rest := []) ⟨hx, hb, hml, hown, hts⟩ hK hw hA (kX11_begins l D g ad σ (2 : Int32) _ rfl) (zcwV 1 hts zgoodIn zw_1188 zw_1190 zw_50 zw_64 zw_1191 rfl rfl hX11_begins ⟨Nat.le_of_ble_eq_true rfl, Nat.le_of_ble_eq_true rfl⟩) zO1_0 rfl hl.1 rfl (Nat.le_of_ble_eq_true rfl) dX11_tell_50 ⟨Nat.zero_le _, Nat.zero_le _⟩ (fun H locs hw => ?_)
      refine lv_aload_n hx hb dX11_tell_53 rfl (lv_at hl 1 rfl) ?_
      refine lv_iconst (v := 1) hx hb dX11_tell_54 (by decide) ?_
      refine z_cVv (As := [.int (1 : Int32)]) (rest := []) ⟨hx, hb, hml, hown, hts⟩ hK hw hA (kX11_begins l D g ad (fX11_begins σ (2 : Int32)) (1 : Int32) _ rfl) (zcwV 1 hts zgoodIn zw_1188 zw_1190 zw_50 zw_64 zw_1191 rfl rfl hX11_begins ⟨Nat.le_of_ble_eq_true rfl, Nat.le_of_ble_eq_true rfl⟩) zO1_0 rfl hl.1 rfl (Nat.le_of_ble_eq_true rfl) dX11_tell_55 ⟨Nat.zero_le _, Nat.zero_le _⟩ (fun H locs hw => ?_)
      refine lv_iload_n hx hb dX11_tell_58 rfl (lv_at hl 0 rfl) ?_
      refine lv_bipush (v := 100) hx hb dX11_tell_59 (by decide) ?_
      refine lv_iadd hx hb dX11_tell_61 ?_
      obtain rfl := Option.some.inj h
      exact hret _ _ _ _ hw rfl dX11_tell_62
    · rw [if_neg t6] at h
      by_cases t7 : v4 = (2 : Int32)
      · rw [if_pos t7] at h
        refine lv_lookup (tgt := 63) (off := 40) hx hb dX11_tell_23 (by decide) (by first | (rw [t7]; done) | (rw [t7]; rfl)) (by decide) ?_
        refine lv_aload_n hx hb dX11_tell_63 rfl (lv_at hl 1 rfl) ?_
        refine lv_iconst (v := 3) hx hb dX11_tell_64 (by decide) ?_
        refine z_cVv (As := [.int (3 : Int32)]) (rest := []) ⟨hx, hb, hml, hown, hts⟩ hK hw hA (kX11_begins l D g ad σ (3 : Int32) _ rfl) (zcwV 1 hts zgoodIn zw_1188 zw_1190 zw_50 zw_64 zw_1191 rfl rfl hX11_begins ⟨Nat.le_of_ble_eq_true rfl, Nat.le_of_ble_eq_true rfl⟩) zO1_0 rfl hl.1 rfl (Nat.le_of_ble_eq_true rfl) dX11_tell_65 ⟨Nat.zero_le _, Nat.zero_le _⟩ (fun H locs hw => ?_)
        refine lv_aload_n hx hb dX11_tell_68 rfl (lv_at hl 1 rfl) ?_
        refine lv_iconst (v := 2) hx hb dX11_tell_69 (by decide) ?_
        refine z_cVv (As := [.int (2 : Int32)]) (rest := []) ⟨hx, hb, hml, hown, hts⟩ hK hw hA (kX11_begins l D g ad (fX11_begins σ (3 : Int32)) (2 : Int32) _ rfl) (zcwV 1 hts zgoodIn zw_1188 zw_1190 zw_50 zw_64 zw_1191 rfl rfl hX11_begins ⟨Nat.le_of_ble_eq_true rfl, Nat.le_of_ble_eq_true rfl⟩) zO1_0 rfl hl.1 rfl (Nat.le_of_ble_eq_true rfl) dX11_tell_70 ⟨Nat.zero_le _, Nat.zero_le _⟩ (fun H locs hw => ?_)
        refine lv_aload_n hx hb dX11_tell_73 rfl (lv_at hl 1 rfl) ?_
        refine lv_iconst (v := 1) hx hb dX11_tell_74 (by decide) ?_
        refine z_cVv (As := [.int (1 : Int32)]) (rest := []) ⟨hx, hb, hml, hown, hts⟩ hK hw hA (kX11_begins l D g ad (fX11_begins (fX11_begins σ (3 : Int32)) (2 : Int32)) (1 : Int32) _ rfl) (zcwV 1 hts zgoodIn zw_1188 zw_1190 zw_50 zw_64 zw_1191 rfl rfl hX11_begins ⟨Nat.le_of_ble_eq_true rfl, Nat.le_of_ble_eq_true rfl⟩) zO1_0 rfl hl.1 rfl (Nat.le_of_ble_eq_true rfl) dX11_tell_75 ⟨Nat.zero_le _, Nat.zero_le _⟩ (fun H locs hw => ?_)
        refine lv_aload_n hx hb dX11_tell_78 rfl (lv_at hl 1 rfl) ?_
        refine lv_iconst (v := 1) hx hb dX11_tell_79 (by decide) ?_
        refine z_cVv (As := [.int (1 : Int32)]) (rest := []) ⟨hx, hb, hml, hown, hts⟩ hK hw hA (kX11_begins l D g ad (fX11_begins (fX11_begins (fX11_begins σ (3 : Int32)) (2 : Int32)) (1 : Int32)) (1 : Int32) _ rfl) (zcwV 1 hts zgoodIn zw_1188 zw_1190 zw_50 zw_64 zw_1191 rfl rfl hX11_begins ⟨Nat.le_of_ble_eq_true rfl, Nat.le_of_ble_eq_true rfl⟩) zO1_0 rfl hl.1 rfl (Nat.le_of_ble_eq_true rfl) dX11_tell_80 ⟨Nat.zero_le _, Nat.zero_le _⟩ (fun H locs hw => ?_)
        refine lv_iconst (v := 2) hx hb dX11_tell_83 (by decide) ?_
        refine lv_iload_n hx hb dX11_tell_84 rfl (lv_at hl 0 rfl) ?_
        refine lv_imul hx hb dX11_tell_85 ?_
        refine lv_bipush (v := 100) hx hb dX11_tell_86 (by decide) ?_
        refine lv_iadd hx hb dX11_tell_88 ?_
        obtain rfl := Option.some.inj h
        exact hret _ _ _ _ hw rfl dX11_tell_89
      · rw [if_neg t7] at h
        refine lv_lookup (tgt := 90) (off := 67) hx hb dX11_tell_23 (by decide) (by show Op.lookupswitch.offset [(1, 25), (2, 40)] _ _ = _; rw [lv_osw (a := 1) t6 (by decide), lv_osw (a := 2) t7 (by decide)]; rfl) (by decide) ?_
        refine lv_aload_n hx hb dX11_tell_90 rfl (lv_at hl 1 rfl) ?_
        refine lv_iconst (v := 1) hx hb dX11_tell_91 (by decide) ?_
        refine z_cVv (As := [.int (1 : Int32)]) (rest := []) ⟨hx, hb, hml, hown, hts⟩ hK hw hA (kX11_begins l D g ad σ (1 : Int32) _ rfl) (zcwV 1 hts zgoodIn zw_1188 zw_1190 zw_50 zw_64 zw_1191 rfl rfl hX11_begins ⟨Nat.le_of_ble_eq_true rfl, Nat.le_of_ble_eq_true rfl⟩) zO1_0 rfl hl.1 rfl (Nat.le_of_ble_eq_true rfl) dX11_tell_92 ⟨Nat.zero_le _, Nat.zero_le _⟩ (fun H locs hw => ?_)
        refine lv_iload_n hx hb dX11_tell_95 rfl (lv_at hl 0 rfl) ?_
        obtain rfl := Option.some.inj h
        exact hret _ _ _ _ hw rfl dX11_tell_96
  · rw [if_pos t1] at h
    refine lv_iconst (v := (-1)) hx hb dX11_tell_8 (by decide) ?_
    obtain rfl := Option.some.inj h
    exact hret _ _ _ _ hw rfl dX11_tell_9
theorem hX11_pay : yX11_pay.cls = RX11 ∧ yX11_pay.cls ≠ "java/lang/invoke/MethodHandle" ∧ yX11_pay.cls ≠ "java/lang/invoke/VarHandle" ∧ (parseMethodDescriptor yX11_pay.desc).map (fun d => d.parameters.length) = some 1 := by decide +kernel
set_option maxHeartbeats 4000000 in
set_option maxRecDepth 100000 in
theorem kX11_pay (l : Launch) (D : va_G) (g : zG) (ad : Nat → Nat) (σ : zSt) (x1 : Int32) (o : Int32 × zSt) (h : fX11_pay σ x1 = some o) : zMi l D g 1 ad yX11_pay (Cond.code yX11_pay cX11_pay 2 (some .int) :: zws) (zRm 1) [.ref (ad 0), .int x1] σ o.1 o.2 := by
  refine z_enter_i (by decide) (Nat.le_of_ble_eq_true rfl) ?_
  intro p e s m below meth c A ls Q C hw hl hret
  obtain ⟨hx, hb, hml, hown, hts, hK, hA⟩ := id C
  have hown : s.vm.findClass RX11 = some m.cls := hown
  have C : zCx p c cX11_pay s _ RX11 m 2 A s.heap D g := C
  have hl : lv_has ls 2 [(0, .ref (ad 0)), (1, .int x1)] := hl
  unfold fX11_pay at h
  refine lv_aload_n hx hb dX11_pay_0 rfl (lv_at hl 0 rfl) ?_
  refine lv_iload_n hx hb dX11_pay_1 rfl (lv_at hl 1 rfl) ?_
  refine z_cVi (As := [.int x1]) (rest := []) ⟨hx, hb, hml, hown, hts⟩ hK hw hA (kX11_isInterpreter l D g ad σ x1 _ rfl) (zcwV 1 hts zgoodIn zw_1001 zw_1003 zw_33 zw_64 zw_1004 rfl rfl hX11_isInterpreter ⟨Nat.le_of_ble_eq_true rfl, Nat.le_of_ble_eq_true rfl⟩) zO1_0 rfl hl.1 rfl (Nat.le_of_ble_eq_true rfl) dX11_pay_2 ⟨Nat.zero_le _, Nat.zero_le _⟩ (fun H locs hw => ?_)
  refine lv_if_ne (tgt := 10) hx hb dX11_pay_5 (by decide) (fun t1 => ?_) (fun t1 => ?_)
  · rw [if_neg t1] at h
    refine lv_aload_n hx hb dX11_pay_10 rfl (lv_at hl 0 rfl) ?_
    refine lv_aload_n hx hb dX11_pay_11 rfl (lv_at hl 0 rfl) ?_
    refine z_getc hx hb hts zin_X11 hown hK hw zF1_0_12 (hts _ zw_850) dX11_pay_12 ?_
    refine lv_iload_n hx hb dX11_pay_15 rfl (lv_at hl 1 rfl) ?_
    obtain ⟨v2, e3, h⟩ := zbind h
    refine z_iald hx hb hK hw e3 dX11_pay_16 ?_
    refine lv_iconst (v := 2) hx hb dX11_pay_17 (by decide) ?_
    refine lv_icmp_ne (tgt := 25) hx hb dX11_pay_18 (by decide) (fun t4 => ?_) (fun t4 => ?_)
    · rw [if_neg t4] at h
      refine lv_iconst (v := 4) hx hb dX11_pay_25 (by decide) ?_
      refine z_cVv (As := [.int (4 : Int32)]) (rest := []) ⟨hx, hb, hml, hown, hts⟩ hK hw hA (kX11_begins l D g ad σ (4 : Int32) _ rfl) (zcwV 1 hts zgoodIn zw_1188 zw_1190 zw_50 zw_64 zw_1191 rfl rfl hX11_begins ⟨Nat.le_of_ble_eq_true rfl, Nat.le_of_ble_eq_true rfl⟩) zO1_0 rfl hl.1 rfl (Nat.le_of_ble_eq_true rfl) dX11_pay_26 ⟨Nat.zero_le _, Nat.zero_le _⟩ (fun H locs hw => ?_)
      refine lv_aload_n hx hb dX11_pay_29 rfl (lv_at hl 0 rfl) ?_
      refine z_getc hx hb hts zin_X11 hown hK hw zF1_0_12 (hts _ zw_850) dX11_pay_30 ?_
      refine lv_iload_n hx hb dX11_pay_33 rfl (lv_at hl 1 rfl) ?_
      obtain ⟨v5, e6, h⟩ := zbind h
      refine z_iald hx hb hK hw e6 dX11_pay_34 ?_
      refine lv_iconst (v := 2) hx hb dX11_pay_35 (by decide) ?_
      refine lv_icmp_ne (tgt := 44) hx hb dX11_pay_36 (by decide) (fun t7 => ?_) (fun t7 => ?_)
      · rw [if_neg t7] at h
        refine lv_iload_n hx hb dX11_pay_44 rfl (lv_at hl 1 rfl) ?_
        obtain rfl := Option.some.inj h
        exact hret _ _ _ _ hw rfl dX11_pay_45
      · rw [if_pos t7] at h
        refine lv_bipush (v := 40) hx hb dX11_pay_39 (by decide) ?_
        refine lv_goto (tgt := 45) hx hb dX11_pay_41 (by decide) ?_
        obtain rfl := Option.some.inj h
        exact hret _ _ _ _ hw rfl dX11_pay_45
    · rw [if_pos t4] at h
      refine lv_iconst (v := 5) hx hb dX11_pay_21 (by decide) ?_
      refine lv_goto (tgt := 26) hx hb dX11_pay_22 (by decide) ?_
      refine z_cVv (As := [.int (5 : Int32)]) (rest := []) ⟨hx, hb, hml, hown, hts⟩ hK hw hA (kX11_begins l D g ad σ (5 : Int32) _ rfl) (zcwV 1 hts zgoodIn zw_1188 zw_1190 zw_50 zw_64 zw_1191 rfl rfl hX11_begins ⟨Nat.le_of_ble_eq_true rfl, Nat.le_of_ble_eq_true rfl⟩) zO1_0 rfl hl.1 rfl (Nat.le_of_ble_eq_true rfl) dX11_pay_26 ⟨Nat.zero_le _, Nat.zero_le _⟩ (fun H locs hw => ?_)
      refine lv_aload_n hx hb dX11_pay_29 rfl (lv_at hl 0 rfl) ?_
      refine z_getc hx hb hts zin_X11 hown hK hw zF1_0_12 (hts _ zw_850) dX11_pay_30 ?_
      refine lv_iload_n hx hb dX11_pay_33 rfl (lv_at hl 1 rfl) ?_
      obtain ⟨v8, e9, h⟩ := zbind h
      refine z_iald hx hb hK hw e9 dX11_pay_34 ?_
      refine lv_iconst (v := 2) hx hb dX11_pay_35 (by decide) ?_
      refine lv_icmp_ne (tgt := 44) hx hb dX11_pay_36 (by decide) (fun t10 => ?_) (fun t10 => ?_)
      · rw [if_neg t10] at h
        refine lv_iload_n hx hb dX11_pay_44 rfl (lv_at hl 1 rfl) ?_
        obtain rfl := Option.some.inj h
        exact hret _ _ _ _ hw rfl dX11_pay_45
      · rw [if_pos t10] at h
        refine lv_bipush (v := 40) hx hb dX11_pay_39 (by decide) ?_
        refine lv_goto (tgt := 45) hx hb dX11_pay_41 (by decide) ?_
        obtain rfl := Option.some.inj h
        exact hret _ _ _ _ hw rfl dX11_pay_45
  · rw [if_pos t1] at h
    refine lv_iconst (v := (-1)) hx hb dX11_pay_8 (by decide) ?_
    obtain rfl := Option.some.inj h
    exact hret _ _ _ _ hw rfl dX11_pay_9
theorem hX11_as : yX11_as.cls = RX11 ∧ yX11_as.cls ≠ "java/lang/invoke/MethodHandle" ∧ yX11_as.cls ≠ "java/lang/invoke/VarHandle" ∧ (parseMethodDescriptor yX11_as.desc).map (fun d => d.parameters.length) = some 2 := by decide +kernel
set_option maxHeartbeats 4000000 in
set_option maxRecDepth 100000 in
theorem kX11_as (l : Launch) (D : va_G) (g : zG) (ad : Nat → Nat) (σ : zSt) (x1 : Int32) (x2 : Int32) (o : Int32 × zSt) (h : fX11_as σ x1 x2 = some o) : zMi l D g 1 ad yX11_as (Cond.code yX11_as cX11_as 3 (some .int) :: zws) (zRm 1) [.ref (ad 0), .int x1, .int x2] σ o.1 o.2 := by
  refine z_enter_i (by decide) (Nat.le_of_ble_eq_true rfl) ?_
  intro p e s m below meth c A ls Q C hw hl hret
  obtain ⟨hx, hb, hml, hown, hts, hK, hA⟩ := id C
  have hown : s.vm.findClass RX11 = some m.cls := hown
  have C : zCx p c cX11_as s _ RX11 m 3 A s.heap D g := C
  have hl : lv_has ls 3 [(0, .ref (ad 0)), (1, .int x1), (2, .int x2)] := hl
  unfold fX11_as at h
  refine lv_aload_n hx hb dX11_as_0 rfl (lv_at hl 0 rfl) ?_
  refine lv_iconst (v := 0) hx hb dX11_as_1 (by decide) ?_
  refine z_puti hx hb hts zin_X11 tyX11_ok nmX11 hown hK hw zF1_0_0 (hts _ zw_838) zY1_0_0 dX11_as_2 (fun H locs hw => ?_)
  refine lv_aload_n hx hb dX11_as_5 rfl (lv_at hl 0 rfl) ?_
  refine lv_iload_n hx hb dX11_as_6 rfl (lv_at hl 1 rfl) ?_
  refine z_cVi (As := [.int x1]) (rest := []) ⟨hx, hb, hml, hown, hts⟩ hK hw hA (kX11_isInterpreter l D g ad (zwI σ 0 0 (0 : Int32)) x1 _ rfl) (zcwV 1 hts zgoodIn zw_1001 zw_1003 zw_33 zw_64 zw_1004 rfl rfl hX11_isInterpreter ⟨Nat.le_of_ble_eq_true rfl, Nat.le_of_ble_eq_true rfl⟩) zO1_0 rfl hl.1 rfl (Nat.le_of_ble_eq_true rfl) dX11_as_7 ⟨Nat.zero_le _, Nat.zero_le _⟩ (fun H locs hw => ?_)
  refine lv_if_ne (tgt := 15) hx hb dX11_as_10 (by decide) (fun t1 => ?_) (fun t1 => ?_)
  · rw [if_neg t1] at h
    refine lv_iload_n hx hb dX11_as_15 rfl (lv_at hl 2 rfl) ?_
    refine lv_iconst (v := 0) hx hb dX11_as_16 (by decide) ?_
    refine lv_iconst (v := 2) hx hb dX11_as_17 (by decide) ?_
    refine z_cSi (As := [.int x2, .int (0 : Int32), .int (2 : Int32)]) (rest := []) ⟨hx, hb, hml, hown, hts⟩ hK hw hA (kX11_within l D g ad (zwI σ 0 0 (0 : Int32)) x2 (0 : Int32) (2 : Int32) _ rfl) (zcwS 3 hts zgoodIn zw_930 zw_931 zw_64 zw_932 rfl rfl hX11_within ⟨Nat.le_of_ble_eq_true rfl, Nat.le_of_ble_eq_true rfl⟩) rfl hl.1 rfl (Nat.le_of_ble_eq_true rfl) dX11_as_18 ⟨Nat.zero_le _, Nat.zero_le _⟩ (fun H locs hw => ?_)
    refine lv_if_ne (tgt := 27) hx hb dX11_as_21 (by decide) (fun t2 => ?_) (fun t2 => ?_)
    · rw [if_neg t2] at h
      refine lv_aload_n hx hb dX11_as_27 rfl (lv_at hl 0 rfl) ?_
      refine z_getc hx hb hts zin_X11 hown hK hw zF1_0_12 (hts _ zw_850) dX11_as_28 ?_
      refine lv_iload_n hx hb dX11_as_31 rfl (lv_at hl 1 rfl) ?_
      obtain ⟨v3, e4, h⟩ := zbind h
      refine z_iald hx hb hK hw e4 dX11_as_32 ?_
      refine lv_iload_n hx hb dX11_as_33 rfl (lv_at hl 2 rfl) ?_
      refine lv_icmp_lt (tgt := 41) hx hb dX11_as_34 (by decide) (fun t5 => ?_) (fun t5 => ?_)
      · rw [if_pos t5] at h
        refine lv_aload_n hx hb dX11_as_41 rfl (lv_at hl 0 rfl) ?_
        refine lv_iconst (v := 2) hx hb dX11_as_42 (by decide) ?_
        refine z_cVi (As := [.int (2 : Int32)]) (rest := []) ⟨hx, hb, hml, hown, hts⟩ hK hw hA (kX11_fails l D g ad (zwI σ 0 0 (0 : Int32)) (2 : Int32) _ rfl) (zcwV 1 hts zgoodIn zw_940 zw_942 zw_25 zw_64 zw_943 rfl rfl hX11_fails ⟨Nat.le_of_ble_eq_true rfl, Nat.le_of_ble_eq_true rfl⟩) zO1_0 rfl hl.1 rfl (Nat.le_of_ble_eq_true rfl) dX11_as_43 ⟨Nat.zero_le _, Nat.zero_le _⟩ (fun H locs hw => ?_)
        obtain rfl := Option.some.inj h
        exact hret _ _ _ _ hw rfl dX11_as_46
      · rw [if_neg t5] at h
        refine lv_iconst (v := 1) hx hb dX11_as_37 (by decide) ?_
        refine lv_goto (tgt := 46) hx hb dX11_as_38 (by decide) ?_
        obtain rfl := Option.some.inj h
        exact hret _ _ _ _ hw rfl dX11_as_46
    · rw [if_pos t2] at h
      refine lv_bipush (v := (-2)) hx hb dX11_as_24 (by decide) ?_
      obtain rfl := Option.some.inj h
      exact hret _ _ _ _ hw rfl dX11_as_26
  · rw [if_pos t1] at h
    refine lv_iconst (v := (-1)) hx hb dX11_as_13 (by decide) ?_
    obtain rfl := Option.some.inj h
    exact hret _ _ _ _ hw rfl dX11_as_14
theorem hX11_trace : yX11_trace.cls = RX11 ∧ yX11_trace.cls ≠ "java/lang/invoke/MethodHandle" ∧ yX11_trace.cls ≠ "java/lang/invoke/VarHandle" ∧ (parseMethodDescriptor yX11_trace.desc).map (fun d => d.parameters.length) = some 0 := by decide +kernel
set_option maxHeartbeats 4000000 in
set_option maxRecDepth 100000 in
theorem kX11_trace (l : Launch) (D : va_G) (g : zG) (ad : Nat → Nat) (σ : zSt) (o : Int32) (h : fX11_trace σ = o) : zMi l D g 1 ad yX11_trace (Cond.code yX11_trace cX11_trace 1 (some .int) :: zws) (zRm 0) [.ref (ad 0)] σ o σ := by
  refine z_enter_i (by decide) (Nat.le_of_ble_eq_true rfl) ?_
  intro p e s m below meth c A ls Q C hw hl hret
  obtain ⟨hx, hb, hml, hown, hts, hK, hA⟩ := id C
  have hown : s.vm.findClass RX11 = some m.cls := hown
  have C : zCx p c cX11_trace s _ RX11 m 1 A s.heap D g := C
  have hl : lv_has ls 1 [(0, .ref (ad 0))] := hl
  unfold fX11_trace at h
  refine lv_aload_n hx hb dX11_trace_0 rfl (lv_at hl 0 rfl) ?_
  refine z_geti hx hb hts zin_X11 hown hK hw zF1_0_1 (hts _ zw_839) dX11_trace_1 ?_
  subst h
  exact hret _ _ _ _ hw rfl dX11_trace_4
theorem hX11_fault : yX11_fault.cls = RX11 ∧ yX11_fault.cls ≠ "java/lang/invoke/MethodHandle" ∧ yX11_fault.cls ≠ "java/lang/invoke/VarHandle" ∧ (parseMethodDescriptor yX11_fault.desc).map (fun d => d.parameters.length) = some 0 := by decide +kernel
set_option maxHeartbeats 4000000 in
set_option maxRecDepth 100000 in
theorem kX11_fault (l : Launch) (D : va_G) (g : zG) (ad : Nat → Nat) (σ : zSt) (o : Int32) (h : fX11_fault σ = o) : zMi l D g 1 ad yX11_fault (Cond.code yX11_fault cX11_fault 1 (some .int) :: zws) (zRm 0) [.ref (ad 0)] σ o σ := by
  refine z_enter_i (by decide) (Nat.le_of_ble_eq_true rfl) ?_
  intro p e s m below meth c A ls Q C hw hl hret
  obtain ⟨hx, hb, hml, hown, hts, hK, hA⟩ := id C
  have hown : s.vm.findClass RX11 = some m.cls := hown
  have C : zCx p c cX11_fault s _ RX11 m 1 A s.heap D g := C
  have hl : lv_has ls 1 [(0, .ref (ad 0))] := hl
  unfold fX11_fault at h
  refine lv_aload_n hx hb dX11_fault_0 rfl (lv_at hl 0 rfl) ?_
  refine z_geti hx hb hts zin_X11 hown hK hw zF1_0_0 (hts _ zw_838) dX11_fault_1 ?_
  subst h
  exact hret _ _ _ _ hw rfl dX11_fault_4
theorem hX11_many : yX11_many.cls = RX11 ∧ yX11_many.cls ≠ "java/lang/invoke/MethodHandle" ∧ yX11_many.cls ≠ "java/lang/invoke/VarHandle" ∧ (parseMethodDescriptor yX11_many.desc).map (fun d => d.parameters.length) = some 1 := by decide +kernel
set_option maxHeartbeats 4000000 in
set_option maxRecDepth 100000 in
theorem kX11_many (l : Launch) (D : va_G) (g : zG) (ad : Nat → Nat) (σ : zSt) (x1 : Int32) (o : Int32) (h : fX11_many σ x1 = o) : zMi l D g 1 ad yX11_many (Cond.code yX11_many cX11_many 2 (some .int) :: zws) (zRm 0) [.ref (ad 0), .int x1] σ o σ := by
  refine z_enter_i (by decide) (Nat.le_of_ble_eq_true rfl) ?_
  intro p e s m below meth c A ls Q C hw hl hret
  obtain ⟨hx, hb, hml, hown, hts, hK, hA⟩ := id C
  have hown : s.vm.findClass RX11 = some m.cls := hown
  have C : zCx p c cX11_many s _ RX11 m 2 A s.heap D g := C
  have hl : lv_has ls 2 [(0, .ref (ad 0)), (1, .int x1)] := hl
  unfold fX11_many at h
  refine lv_iload_n hx hb dX11_many_0 rfl (lv_at hl 1 rfl) ?_
  by_cases t1 : x1 = (0 : Int32)
  · rw [if_pos t1] at h
    refine lv_tableIn (tgt := 36) hx hb dX11_many_1 (by rw [t1]; decide) (by rw [t1]; decide) (by rw [t1]; rfl) (by decide) ?_
    refine lv_aload_n hx hb dX11_many_36 rfl (lv_at hl 0 rfl) ?_
    refine z_geti hx hb hts zin_X11 hown hK hw zF1_0_5 (hts _ zw_843) dX11_many_37 ?_
    subst h
    exact hret _ _ _ _ hw rfl dX11_many_40
  · rw [if_neg t1] at h
    by_cases t2 : x1 = (1 : Int32)
    · rw [if_pos t2] at h
      refine lv_tableIn (tgt := 41) hx hb dX11_many_1 (by rw [t2]; decide) (by rw [t2]; decide) (by rw [t2]; rfl) (by decide) ?_
      refine lv_aload_n hx hb dX11_many_41 rfl (lv_at hl 0 rfl) ?_
      refine z_geti hx hb hts zin_X11 hown hK hw zF1_0_11 (hts _ zw_849) dX11_many_42 ?_
      subst h
      exact hret _ _ _ _ hw rfl dX11_many_45
    · rw [if_neg t2] at h
      by_cases t3 : x1 = (2 : Int32)
      · rw [if_pos t3] at h
        refine lv_tableIn (tgt := 46) hx hb dX11_many_1 (by rw [t3]; decide) (by rw [t3]; decide) (by rw [t3]; rfl) (by decide) ?_
        refine lv_aload_n hx hb dX11_many_46 rfl (lv_at hl 0 rfl) ?_
        refine z_geti hx hb hts zin_X11 hown hK hw zF1_0_16 (hts _ zw_854) dX11_many_47 ?_
        refine lv_if_eq (tgt := 57) hx hb dX11_many_50 (by decide) (fun t4 => ?_) (fun t4 => ?_)
        · rw [if_pos t4] at h
          refine lv_iconst (v := 0) hx hb dX11_many_57 (by decide) ?_
          subst h
          exact hret _ _ _ _ hw rfl dX11_many_58
        · rw [if_neg t4] at h
          refine lv_iconst (v := 1) hx hb dX11_many_53 (by decide) ?_
          refine lv_goto (tgt := 58) hx hb dX11_many_54 (by decide) ?_
          subst h
          exact hret _ _ _ _ hw rfl dX11_many_58
      · rw [if_neg t3] at h
        by_cases t5 : x1 = (3 : Int32)
        · rw [if_pos t5] at h
          refine lv_tableIn (tgt := 59) hx hb dX11_many_1 (by rw [t5]; decide) (by rw [t5]; decide) (by rw [t5]; rfl) (by decide) ?_
          refine lv_aload_n hx hb dX11_many_59 rfl (lv_at hl 0 rfl) ?_
          refine z_geti hx hb hts zin_X11 hown hK hw zF1_0_19 (hts _ zw_857) dX11_many_60 ?_
          subst h
          exact hret _ _ _ _ hw rfl dX11_many_63
        · rw [if_neg t5] at h
          by_cases t6 : x1 = (4 : Int32)
          · rw [if_pos t6] at h
            refine lv_tableIn (tgt := 64) hx hb dX11_many_1 (by rw [t6]; decide) (by rw [t6]; decide) (by rw [t6]; rfl) (by decide) ?_
            refine lv_aload_n hx hb dX11_many_64 rfl (lv_at hl 0 rfl) ?_
            refine z_geti hx hb hts zin_X11 hown hK hw zF1_0_17 (hts _ zw_855) dX11_many_65 ?_
            subst h
            exact hret _ _ _ _ hw rfl dX11_many_68
          · rw [if_neg t6] at h
            refine lv_tableOut (tgt := 69) hx hb dX11_many_1 (by have at1 := lv_neT (a := 0) t1 (by decide); have at2 := lv_neT (a := 1) t2 (by decide); have at3 := lv_neT (a := 2) t3 (by decide); have at5 := lv_neT (a := 3) t5 (by decide); have at6 := lv_neT (a := 4) t6 (by decide); omega) (by decide) ?_
            refine lv_bipush (v := (-2)) hx hb dX11_many_69 (by decide) ?_
            subst h
            exact hret _ _ _ _ hw rfl dX11_many_71
