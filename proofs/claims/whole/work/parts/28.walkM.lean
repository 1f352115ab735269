/-! walks: X11_becomes, X11_meantBy, X11_meant, X11_alike, X11_isInterpreter, X11_interpreter, X11_ofInterpreter, X11_tire, X11_plainly, X11_carried, X11_carries, X11_returns -/
theorem hX11_becomes : yX11_becomes.cls = RX11 ∧ yX11_becomes.cls ≠ "java/lang/invoke/MethodHandle" ∧ yX11_becomes.cls ≠ "java/lang/invoke/VarHandle" ∧ (parseMethodDescriptor yX11_becomes.desc).map (fun d => d.parameters.length) = some 3 := by decide +kernel
set_option maxHeartbeats 4000000 in
set_option maxRecDepth 100000 in
theorem kX11_becomes (l : Launch) (D : va_G) (g : zG) (ad : Nat → Nat) (σ : zSt) (x1 : Int32) (x2 : Int32) (x3 : Int32) (o : Int32) (h : fX11_becomes σ x1 x2 x3 = some o) : zMi l D g 1 ad yX11_becomes (Cond.code yX11_becomes cX11_becomes 4 (some .int) :: zws) (zRm 2) [.ref (ad 0), .int x1, .int x2, .int x3] σ o σ := by
  refine z_enter_i (by decide) (Nat.le_of_ble_eq_true rfl) ?_
  intro p e s m below meth c A ls Q C hw hl hret
  obtain ⟨hx, hb, hml, hown, hts, hK, hA⟩ := id C
  have hown : s.vm.findClass RX11 = some m.cls := hown
  have C : zCx p c cX11_becomes s _ RX11 m 4 A s.heap D g := C
  have hl : lv_has ls 4 [(0, .ref (ad 0)), (1, .int x1), (2, .int x2), (3, .int x3)] := hl
  unfold fX11_becomes at h
  refine lv_aload_n hx hb dX11_becomes_0 rfl (lv_at hl 0 rfl) ?_
  refine lv_iload_n hx hb dX11_becomes_1 rfl (lv_at hl 2 rfl) ?_
  refine z_cVi (As := [.int x2]) (rest := []) ⟨hx, hb, hml, hown, hts⟩ hK hw hA (kX11_isWord l D g ad σ x2 _ rfl) (zcwV 1 hts zgoodIn zw_964 zw_966 zw_30 zw_64 zw_967 rfl rfl hX11_isWord ⟨Nat.le_of_ble_eq_true rfl, Nat.le_of_ble_eq_true rfl⟩) zO1_0 rfl hl.1 rfl (Nat.le_of_ble_eq_true rfl) dX11_becomes_2 ⟨Nat.zero_le _, Nat.zero_le _⟩ (fun H locs hw => ?_)
  refine lv_if_eq (tgt := 16) hx hb dX11_becomes_5 (by decide) (fun t1 => ?_) (fun t1 => ?_)
  · rw [if_pos t1] at h
    refine lv_iconst (v := (-1)) hx hb dX11_becomes_16 (by decide) ?_
    obtain rfl := Option.some.inj h
    exact hret _ _ _ _ hw rfl dX11_becomes_17
  · rw [if_neg t1] at h
    refine lv_aload_n hx hb dX11_becomes_8 rfl (lv_at hl 0 rfl) ?_
    refine lv_iload_n hx hb dX11_becomes_9 rfl (lv_at hl 3 rfl) ?_
    refine z_cVi (As := [.int x3]) (rest := []) ⟨hx, hb, hml, hown, hts⟩ hK hw hA (kX11_isEnd l D g ad σ x3 _ rfl) (zcwV 1 hts zgoodIn zw_968 zw_970 zw_31 zw_64 zw_971 rfl rfl hX11_isEnd ⟨Nat.le_of_ble_eq_true rfl, Nat.le_of_ble_eq_true rfl⟩) zO1_0 rfl hl.1 rfl (Nat.le_of_ble_eq_true rfl) dX11_becomes_10 ⟨Nat.zero_le _, Nat.zero_le _⟩ (fun H locs hw => ?_)
    refine lv_if_ne (tgt := 18) hx hb dX11_becomes_13 (by decide) (fun t2 => ?_) (fun t2 => ?_)
    · rw [if_neg t2] at h
      refine lv_iload_n hx hb dX11_becomes_18 rfl (lv_at hl 1 rfl) ?_
      refine z_cSi (As := [.int x1]) (rest := []) ⟨hx, hb, hml, hown, hts⟩ hK hw hA (kX11_isWay l D g ad σ x1 _ rfl) (zcwS 1 hts zgoodIn zw_972 zw_973 zw_64 zw_974 rfl rfl hX11_isWay ⟨Nat.le_of_ble_eq_true rfl, Nat.le_of_ble_eq_true rfl⟩) rfl hl.1 rfl (Nat.le_of_ble_eq_true rfl) dX11_becomes_19 ⟨Nat.zero_le _, Nat.zero_le _⟩ (fun H locs hw => ?_)
      refine lv_if_ne (tgt := 28) hx hb dX11_becomes_22 (by decide) (fun t3 => ?_) (fun t3 => ?_)
      · rw [if_neg t3] at h
        refine lv_iload_n hx hb dX11_becomes_28 rfl (lv_at hl 3 rfl) ?_
        refine lv_aload_n hx hb dX11_becomes_29 rfl (lv_at hl 0 rfl) ?_
        refine z_geti hx hb hts zin_X11 hown hK hw zF1_0_5 (hts _ zw_843) dX11_becomes_30 ?_
        refine lv_icmp_ne (tgt := 55) hx hb dX11_becomes_33 (by decide) (fun t4 => ?_) (fun t4 => ?_)
        · rw [if_neg t4] at h
          refine lv_aload_n hx hb dX11_becomes_55 rfl (lv_at hl 0 rfl) ?_
          refine z_getc hx hb hts zin_X11 hown hK hw zF1_0_6 (hts _ zw_844) dX11_becomes_56 ?_
          refine lv_iload_n hx hb dX11_becomes_59 rfl (lv_at hl 1 rfl) ?_
          refine lv_iload_n hx hb dX11_becomes_60 rfl (lv_at hl 2 rfl) ?_
          refine z_cSi (As := [.int x1, .int x2]) (rest := [.ref (ad 4)]) ⟨hx, hb, hml, hown, hts⟩ hK hw hA (kX11_rowOf l D g ad σ x1 x2 _ rfl) (zcwS 2 hts zgoodIn zw_975 zw_976 zw_64 zw_977 rfl rfl hX11_rowOf ⟨Nat.le_of_ble_eq_true rfl, Nat.le_of_ble_eq_true rfl⟩) rfl hl.1 rfl (Nat.le_of_ble_eq_true rfl) dX11_becomes_61 ⟨Nat.zero_le _, Nat.zero_le _⟩ (fun H locs hw => ?_)
          refine lv_iload_n hx hb dX11_becomes_64 rfl (lv_at hl 3 rfl) ?_
          refine lv_iadd hx hb dX11_becomes_65 ?_
          obtain ⟨v5, e6, h⟩ := zbind h
          refine z_iald hx hb hK hw e6 dX11_becomes_66 ?_
          obtain rfl := Option.some.inj h
          exact hret _ _ _ _ hw rfl dX11_becomes_67
        · rw [if_pos t4] at h
          refine lv_aload_n hx hb dX11_becomes_36 rfl (lv_at hl 0 rfl) ?_
          refine z_getc hx hb hts zin_X11 hown hK hw zF1_0_6 (hts _ zw_844) dX11_becomes_37 ?_
          refine lv_iload_n hx hb dX11_becomes_40 rfl (lv_at hl 1 rfl) ?_
          refine lv_iload_n hx hb dX11_becomes_41 rfl (lv_at hl 2 rfl) ?_
          refine z_cSi (As := [.int x1, .int x2]) (rest := [.ref (ad 4)]) ⟨hx, hb, hml, hown, hts⟩ hK hw hA (kX11_rowOf l D g ad σ x1 x2 _ rfl) (zcwS 2 hts zgoodIn zw_975 zw_976 zw_64 zw_977 rfl rfl hX11_rowOf ⟨Nat.le_of_ble_eq_true rfl, Nat.le_of_ble_eq_true rfl⟩) rfl hl.1 rfl (Nat.le_of_ble_eq_true rfl) dX11_becomes_42 ⟨Nat.zero_le _, Nat.zero_le _⟩ (fun H locs hw => ?_)
          refine lv_aload_n hx hb dX11_becomes_45 rfl (lv_at hl 0 rfl) ?_
          refine z_geti hx hb hts zin_X11 hown hK hw zF1_0_5 (hts _ zw_843) dX11_becomes_46 ?_
          obtain ⟨r7, e8, h⟩ := zbind h
          refine z_cSi (As := [.ref (ad 4), .int (fX11_rowOf x1 x2), .int (zI σ 0 5)]) (rest := []) ⟨hx, hb, hml, hown, hts⟩ hK hw hA (kX11_lacks l D g ad σ 4 (fX11_rowOf x1 x2) (zI σ 0 5) r7 e8) (zcwS 3 hts zgoodIn zw_978 zw_979 zw_64 zw_980 rfl rfl hX11_lacks ⟨Nat.le_of_ble_eq_true rfl, Nat.le_of_ble_eq_true rfl⟩) rfl hl.1 rfl (Nat.le_of_ble_eq_true rfl) dX11_becomes_49 ⟨Nat.zero_le _, Nat.zero_le _⟩ (fun H locs hw => ?_)
          refine lv_goto (tgt := 67) hx hb dX11_becomes_52 (by decide) ?_
          obtain rfl := Option.some.inj h
          exact hret _ _ _ _ hw rfl dX11_becomes_67
      · rw [if_pos t3] at h
        refine lv_bipush (v := (-2)) hx hb dX11_becomes_25 (by decide) ?_
        obtain rfl := Option.some.inj h
        exact hret _ _ _ _ hw rfl dX11_becomes_27
    · rw [if_pos t2] at h
      refine lv_iconst (v := (-1)) hx hb dX11_becomes_16 (by decide) ?_
      obtain rfl := Option.some.inj h
      exact hret _ _ _ _ hw rfl dX11_becomes_17
set_option maxHeartbeats 4000000 in
set_option maxRecDepth 100000 in
theorem wX11_meantBy_5 {p : Program} {l : Launch} {e : Env} {s : State} {m : MethodId} {args : Array Value} {below : List Frame} {meth : Method} {c : Code} {A : Nat → Prop} {H0 : Heap} {Q : State → Prop} {D : va_G} {g : zG} {ad : Nat → Nat} (C : zCx p c cX11_meantBy s args RX11 m 5 A H0 D g) (σ : zSt) (x1 : Int32) (x2 : Int32) (n : Nat) (a : (Int32 × Int32)) (b : (Int32 × Int32)) (h : zLp (fun a => bX11_meantBy_5 σ x1 x2 a.1 a.2) n a = some b) (hk : ∀ (H : Heap) (locs : List Loc) (ls : Array Slot), zH D g 1 ad A H0 σ H locs → lv_has ls 5 [(0, .ref (ad 0)), (1, .int x1), (2, .int x2), (3, .int b.1), (4, .int b.2)] → W p l e (zRm 1) s m args below meth c H locs 0 0 Q (F0 m 55 ls [])) : ∀ (H : Heap) (locs : List Loc) (ls : Array Slot), zH D g 1 ad A H0 σ H locs → lv_has ls 5 [(0, .ref (ad 0)), (1, .int x1), (2, .int x2), (3, .int a.1), (4, .int a.2)] → W p l e (zRm 1) s m args below meth c H locs 0 0 Q (F0 m 5 ls []) := by
  obtain ⟨hx, hb, hml, hown, hts, hK, hA⟩ := id C
  refine zLp_walk (P := fun (a : (Int32 × Int32)) => ∀ (H : Heap) (locs : List Loc) (ls : Array Slot), zH D g 1 ad A H0 σ H locs → lv_has ls 5 [(0, .ref (ad 0)), (1, .int x1), (2, .int x2), (3, .int a.1), (4, .int a.2)] → W p l e (zRm 1) s m args below meth c H locs 0 0 Q (F0 m 5 ls [])) (E := fun (b' : (Int32 × Int32)) => b' = b) ?_ n a b h rfl
  intro a r h hn he H locs ls hw hl
  obtain ⟨x3, x4⟩ := a
  have h : bX11_meantBy_5 σ x1 x2 x3 x4 = some r := h
  have hl : lv_has ls 5 [(0, .ref (ad 0)), (1, .int x1), (2, .int x2), (3, .int x3), (4, .int x4)] := hl
  have hw : zH D g 1 ad A H0 σ H locs := hw
  unfold bX11_meantBy_5 at h
  refine lv_iload hx hb dX11_meantBy_5 (lv_at hl 4 rfl) ?_
  refine lv_aload_n hx hb dX11_meantBy_7 rfl (lv_at hl 0 rfl) ?_
  refine z_geti hx hb hts zin_X11 hown hK hw zF1_0_5 (hts _ zw_843) dX11_meantBy_8 ?_
  refine lv_icmp_ge (tgt := 55) hx hb dX11_meantBy_11 (by decide) (fun t1 => ?_) (fun t1 => ?_)
  · rw [if_pos t1] at h
    obtain rfl := Option.some.inj h
    obtain rfl := he _ rfl
    exact hk _ _ _ hw (lv_sub hl [0, 1, 2, 3, 4] rfl)
  · rw [if_neg t1] at h
    refine lv_aload_n hx hb dX11_meantBy_14 rfl (lv_at hl 0 rfl) ?_
    refine z_getc hx hb hts zin_X11 hown hK hw zF1_0_6 (hts _ zw_844) dX11_meantBy_15 ?_
    refine lv_iload_n hx hb dX11_meantBy_18 rfl (lv_at hl 1 rfl) ?_
    refine lv_iload_n hx hb dX11_meantBy_19 rfl (lv_at hl 2 rfl) ?_
    refine z_cSi (As := [.int x1, .int x2]) (rest := [.ref (ad 4)]) ⟨hx, hb, hml, hown, hts⟩ hK hw hA (kX11_rowOf l D g ad σ x1 x2 _ rfl) (zcwS 2 hts zgoodIn zw_975 zw_976 zw_64 zw_977 rfl rfl hX11_rowOf ⟨Nat.le_of_ble_eq_true rfl, Nat.le_of_ble_eq_true rfl⟩) rfl hl.1 rfl (Nat.le_of_ble_eq_true rfl) dX11_meantBy_20 ⟨Nat.zero_le _, Nat.zero_le _⟩ (fun H locs hw => ?_)
    refine lv_iload hx hb dX11_meantBy_23 (lv_at hl 4 rfl) ?_
    refine lv_iadd hx hb dX11_meantBy_25 ?_
    obtain ⟨v2, e3, h⟩ := zbind h
    refine z_iald hx hb hK hw e3 dX11_meantBy_26 ?_
    refine lv_aload_n hx hb dX11_meantBy_27 rfl (lv_at hl 0 rfl) ?_
    refine z_getc hx hb hts zin_X11 hown hK hw zF1_0_6 (hts _ zw_844) dX11_meantBy_28 ?_
    refine lv_iload_n hx hb dX11_meantBy_31 rfl (lv_at hl 1 rfl) ?_
    refine lv_iload_n hx hb dX11_meantBy_32 rfl (lv_at hl 2 rfl) ?_
    refine z_cSi (As := [.int x1, .int x2]) (rest := [.ref (ad 4), .int v2]) ⟨hx, hb, hml, hown, hts⟩ hK hw hA (kX11_rowOf l D g ad σ x1 x2 _ rfl) (zcwS 2 hts zgoodIn zw_975 zw_976 zw_64 zw_977 rfl rfl hX11_rowOf ⟨Nat.le_of_ble_eq_true rfl, Nat.le_of_ble_eq_true rfl⟩) rfl hl.1 rfl (Nat.le_of_ble_eq_true rfl) dX11_meantBy_33 ⟨Nat.zero_le _, Nat.zero_le _⟩ (fun H locs hw => ?_)
    refine lv_iload_n hx hb dX11_meantBy_36 rfl (lv_at hl 3 rfl) ?_
    refine lv_iadd hx hb dX11_meantBy_37 ?_
    obtain ⟨v4, e5, h⟩ := zbind h
    refine z_iald hx hb hK hw e5 dX11_meantBy_38 ?_
    refine lv_icmp_le (tgt := 47) hx hb dX11_meantBy_39 (by decide) (fun t6 => ?_) (fun t6 => ?_)
    · rw [if_pos t6] at h
      refine lv_iload_n hx hb dX11_meantBy_47 rfl (lv_at hl 3 rfl) ?_
      refine lv_istore_n (lv' := [(3, .int x3), (0, .ref (ad 0)), (1, .int x1), (2, .int x2), (4, .int x4)]) hx hb dX11_meantBy_48 rfl hl (by decide) rfl (fun ls hl => ?_)
      refine lv_iinc (v := x4 + 1) (lv' := [(4, .int (x4 + 1)), (3, .int x3), (0, .ref (ad 0)), (1, .int x1), (2, .int x2)]) hx hb dX11_meantBy_49 hl (k := 4) rfl rfl (by decide) rfl (fun ls hl => ?_)
      refine lv_goto (tgt := 5) hx hb dX11_meantBy_52 (by decide) ?_
      obtain rfl := Option.some.inj h
      exact hn _ rfl _ _ _ hw (lv_sub hl [2, 3, 4, 1, 0] rfl)
    · rw [if_neg t6] at h
      refine lv_iload hx hb dX11_meantBy_42 (lv_at hl 4 rfl) ?_
      refine lv_goto (tgt := 48) hx hb dX11_meantBy_44 (by decide) ?_
      refine lv_istore_n (lv' := [(3, .int x4), (0, .ref (ad 0)), (1, .int x1), (2, .int x2), (4, .int x4)]) hx hb dX11_meantBy_48 rfl hl (by decide) rfl (fun ls hl => ?_)
      refine lv_iinc (v := x4 + 1) (lv' := [(4, .int (x4 + 1)), (3, .int x4), (0, .ref (ad 0)), (1, .int x1), (2, .int x2)]) hx hb dX11_meantBy_49 hl (k := 4) rfl rfl (by decide) rfl (fun ls hl => ?_)
      refine lv_goto (tgt := 5) hx hb dX11_meantBy_52 (by decide) ?_
      obtain rfl := Option.some.inj h
      exact hn _ rfl _ _ _ hw (lv_sub hl [2, 3, 4, 1, 0] rfl)
theorem hX11_meantBy : yX11_meantBy.cls = RX11 ∧ yX11_meantBy.cls ≠ "java/lang/invoke/MethodHandle" ∧ yX11_meantBy.cls ≠ "java/lang/invoke/VarHandle" ∧ (parseMethodDescriptor yX11_meantBy.desc).map (fun d => d.parameters.length) = some 2 := by decide +kernel
set_option maxHeartbeats 4000000 in
set_option maxRecDepth 100000 in
theorem kX11_meantBy (l : Launch) (D : va_G) (g : zG) (ad : Nat → Nat) (σ : zSt) (x1 : Int32) (x2 : Int32) (o : Int32) (h : fX11_meantBy σ x1 x2 = some o) : zMi l D g 1 ad yX11_meantBy (Cond.code yX11_meantBy cX11_meantBy 5 (some .int) :: zws) (zRm 1) [.ref (ad 0), .int x1, .int x2] σ o σ := by
  refine z_enter_i (by decide) (Nat.le_of_ble_eq_true rfl) ?_
  intro p e s m below meth c A ls Q C hw hl hret
  obtain ⟨hx, hb, hml, hown, hts, hK, hA⟩ := id C
  have hown : s.vm.findClass RX11 = some m.cls := hown
  have C : zCx p c cX11_meantBy s _ RX11 m 5 A s.heap D g := C
  have hl : lv_has ls 5 [(0, .ref (ad 0)), (1, .int x1), (2, .int x2)] := hl
  unfold fX11_meantBy at h
  refine lv_iconst (v := 0) hx hb dX11_meantBy_0 (by decide) ?_
  refine lv_istore_n (lv' := [(3, .int (0 : Int32)), (0, .ref (ad 0)), (1, .int x1), (2, .int x2)]) hx hb dX11_meantBy_1 rfl hl (by decide) rfl (fun ls hl => ?_)
  refine lv_iconst (v := 1) hx hb dX11_meantBy_2 (by decide) ?_
  refine lv_istore (lv' := [(4, .int (1 : Int32)), (3, .int (0 : Int32)), (0, .ref (ad 0)), (1, .int x1), (2, .int x2)]) hx hb dX11_meantBy_3 hl (by decide) rfl (fun ls hl => ?_)
  obtain ⟨b1, e2, h⟩ := zbind h
  refine wX11_meantBy_5 C σ x1 x2 zFU ((0 : Int32), (1 : Int32)) b1 e2 (fun H locs ls hw hl => ?_) _ _ _ hw (lv_sub hl [2, 3, 4, 1, 0] rfl)
  have hl : lv_has ls 5 [(0, .ref (ad 0)), (1, .int x1), (2, .int x2), (3, .int b1.1), (4, .int b1.2)] := hl
  refine lv_iload_n hx hb dX11_meantBy_55 rfl (lv_at hl 3 rfl) ?_
  obtain rfl := Option.some.inj h
  exact hret _ _ _ _ hw rfl dX11_meantBy_56
theorem hX11_meant : yX11_meant.cls = RX11 ∧ yX11_meant.cls ≠ "java/lang/invoke/MethodHandle" ∧ yX11_meant.cls ≠ "java/lang/invoke/VarHandle" ∧ (parseMethodDescriptor yX11_meant.desc).map (fun d => d.parameters.length) = some 2 := by decide +kernel
set_option maxHeartbeats 4000000 in
set_option maxRecDepth 100000 in
theorem kX11_meant (l : Launch) (D : va_G) (g : zG) (ad : Nat → Nat) (σ : zSt) (x1 : Int32) (x2 : Int32) (o : Int32) (h : fX11_meant σ x1 x2 = some o) : zMi l D g 1 ad yX11_meant (Cond.code yX11_meant cX11_meant 3 (some .int) :: zws) (zRm 2) [.ref (ad 0), .int x1, .int x2] σ o σ := by
  refine z_enter_i (by decide) (Nat.le_of_ble_eq_true rfl) ?_
  intro p e s m below meth c A ls Q C hw hl hret
  obtain ⟨hx, hb, hml, hown, hts, hK, hA⟩ := id C
  have hown : s.vm.findClass RX11 = some m.cls := hown
  have C : zCx p c cX11_meant s _ RX11 m 3 A s.heap D g := C
  have hl : lv_has ls 3 [(0, .ref (ad 0)), (1, .int x1), (2, .int x2)] := hl
  unfold fX11_meant at h
  refine lv_aload_n hx hb dX11_meant_0 rfl (lv_at hl 0 rfl) ?_
  refine lv_iload_n hx hb dX11_meant_1 rfl (lv_at hl 2 rfl) ?_
  refine z_cVi (As := [.int x2]) (rest := []) ⟨hx, hb, hml, hown, hts⟩ hK hw hA (kX11_isWord l D g ad σ x2 _ rfl) (zcwV 1 hts zgoodIn zw_964 zw_966 zw_30 zw_64 zw_967 rfl rfl hX11_isWord ⟨Nat.le_of_ble_eq_true rfl, Nat.le_of_ble_eq_true rfl⟩) zO1_0 rfl hl.1 rfl (Nat.le_of_ble_eq_true rfl) dX11_meant_2 ⟨Nat.zero_le _, Nat.zero_le _⟩ (fun H locs hw => ?_)
  refine lv_if_ne (tgt := 10) hx hb dX11_meant_5 (by decide) (fun t1 => ?_) (fun t1 => ?_)
  · rw [if_neg t1] at h
    refine lv_iload_n hx hb dX11_meant_10 rfl (lv_at hl 1 rfl) ?_
    refine z_cSi (As := [.int x1]) (rest := []) ⟨hx, hb, hml, hown, hts⟩ hK hw hA (kX11_isWay l D g ad σ x1 _ rfl) (zcwS 1 hts zgoodIn zw_972 zw_973 zw_64 zw_974 rfl rfl hX11_isWay ⟨Nat.le_of_ble_eq_true rfl, Nat.le_of_ble_eq_true rfl⟩) rfl hl.1 rfl (Nat.le_of_ble_eq_true rfl) dX11_meant_11 ⟨Nat.zero_le _, Nat.zero_le _⟩ (fun H locs hw => ?_)
    refine lv_if_eq (tgt := 26) hx hb dX11_meant_14 (by decide) (fun t2 => ?_) (fun t2 => ?_)
    · rw [if_pos t2] at h
      refine lv_bipush (v := (-2)) hx hb dX11_meant_26 (by decide) ?_
      obtain rfl := Option.some.inj h
      exact hret _ _ _ _ hw rfl dX11_meant_28
    · rw [if_neg t2] at h
      refine lv_aload_n hx hb dX11_meant_17 rfl (lv_at hl 0 rfl) ?_
      refine lv_iload_n hx hb dX11_meant_18 rfl (lv_at hl 1 rfl) ?_
      refine lv_iload_n hx hb dX11_meant_19 rfl (lv_at hl 2 rfl) ?_
      obtain ⟨r3, e4, h⟩ := zbind h
      refine z_cVi (As := [.int x1, .int x2]) (rest := []) ⟨hx, hb, hml, hown, hts⟩ hK hw hA (kX11_meantBy l D g ad σ x1 x2 r3 e4) (zcwV 2 hts zgoodIn zw_985 zw_987 zw_32 zw_64 zw_988 rfl rfl hX11_meantBy ⟨Nat.le_of_ble_eq_true rfl, Nat.le_of_ble_eq_true rfl⟩) zO1_0 rfl hl.1 rfl (Nat.le_of_ble_eq_true rfl) dX11_meant_20 ⟨Nat.zero_le _, Nat.zero_le _⟩ (fun H locs hw => ?_)
      refine lv_goto (tgt := 28) hx hb dX11_meant_23 (by decide) ?_
      obtain rfl := Option.some.inj h
      exact hret _ _ _ _ hw rfl dX11_meant_28
  · rw [if_pos t1] at h
    refine lv_iconst (v := (-1)) hx hb dX11_meant_8 (by decide) ?_
    obtain rfl := Option.some.inj h
    exact hret _ _ _ _ hw rfl dX11_meant_9
set_option maxHeartbeats 4000000 in
set_option maxRecDepth 100000 in
theorem wX11_alike_25 {p : Program} {l : Launch} {e : Env} {s : State} {m : MethodId} {args : Array Value} {below : List Frame} {meth : Method} {c : Code} {A : Nat → Prop} {H0 : Heap} {Q : State → Prop} {D : va_G} {g : zG} {ad : Nat → Nat} (C : zCx p c cX11_alike s args RX11 m 5 A H0 D g) (σ : zSt) (x1 : Int32) (x2 : Int32) (n : Nat) (a : (Int32 × Int32)) (b : (Int32 × Int32)) (h : zLp (fun a => bX11_alike_25 σ x1 x2 a.1 a.2) n a = some b) (hk : ∀ (H : Heap) (locs : List Loc) (ls : Array Slot), zH D g 1 ad A H0 σ H locs → lv_has ls 5 [(0, .ref (ad 0)), (1, .int x1), (2, .int x2), (3, .int b.1), (4, .int b.2)] → W p l e (zRm 2) s m args below meth c H locs 0 0 Q (F0 m 73 ls [])) : ∀ (H : Heap) (locs : List Loc) (ls : Array Slot), zH D g 1 ad A H0 σ H locs → lv_has ls 5 [(0, .ref (ad 0)), (1, .int x1), (2, .int x2), (3, .int a.1), (4, .int a.2)] → W p l e (zRm 2) s m args below meth c H locs 0 0 Q (F0 m 25 ls []) := by
  obtain ⟨hx, hb, hml, hown, hts, hK, hA⟩ := id C
  refine zLp_walk (P := fun (a : (Int32 × Int32)) => ∀ (H : Heap) (locs : List Loc) (ls : Array Slot), zH D g 1 ad A H0 σ H locs → lv_has ls 5 [(0, .ref (ad 0)), (1, .int x1), (2, .int x2), (3, .int a.1), (4, .int a.2)] → W p l e (zRm 2) s m args below meth c H locs 0 0 Q (F0 m 25 ls [])) (E := fun (b' : (Int32 × Int32)) => b' = b) ?_ n a b h rfl
  intro a r h hn he H locs ls hw hl
  obtain ⟨x3, x4⟩ := a
  have h : bX11_alike_25 σ x1 x2 x3 x4 = some r := h
  have hl : lv_has ls 5 [(0, .ref (ad 0)), (1, .int x1), (2, .int x2), (3, .int x3), (4, .int x4)] := hl
  have hw : zH D g 1 ad A H0 σ H locs := hw
  unfold bX11_alike_25 at h
  refine lv_iload hx hb dX11_alike_25 (lv_at hl 4 rfl) ?_
  refine lv_aload_n hx hb dX11_alike_27 rfl (lv_at hl 0 rfl) ?_
  refine z_geti hx hb hts zin_X11 hown hK hw zF1_0_5 (hts _ zw_843) dX11_alike_28 ?_
  refine lv_icmp_ge (tgt := 73) hx hb dX11_alike_31 (by decide) (fun t1 => ?_) (fun t1 => ?_)
  · rw [if_pos t1] at h
    obtain rfl := Option.some.inj h
    obtain rfl := he _ rfl
    exact hk _ _ _ hw (lv_sub hl [0, 1, 2, 3, 4] rfl)
  · rw [if_neg t1] at h
    refine lv_iload_n hx hb dX11_alike_34 rfl (lv_at hl 3 rfl) ?_
    refine lv_iload hx hb dX11_alike_35 (lv_at hl 4 rfl) ?_
    refine lv_iload_n hx hb dX11_alike_37 rfl (lv_at hl 2 rfl) ?_
    refine lv_icmp_eq (tgt := 64) hx hb dX11_alike_38 (by decide) (fun t2 => ?_) (fun t2 => ?_)
    · rw [if_pos t2] at h
      refine lv_iconst (v := 0) hx hb dX11_alike_64 (by decide) ?_
      refine lv_ior hx hb dX11_alike_65 ?_
      refine lv_istore_n (lv' := [(3, .int (x3 ||| (0 : Int32))), (0, .ref (ad 0)), (1, .int x1), (2, .int x2), (4, .int x4)]) hx hb dX11_alike_66 rfl hl (by decide) rfl (fun ls hl => ?_)
      refine lv_iinc (v := x4 + 1) (lv' := [(4, .int (x4 + 1)), (3, .int (x3 ||| (0 : Int32))), (0, .ref (ad 0)), (1, .int x1), (2, .int x2)]) hx hb dX11_alike_67 hl (k := 4) rfl rfl (by decide) rfl (fun ls hl => ?_)
      refine lv_goto (tgt := 25) hx hb dX11_alike_70 (by decide) ?_
      obtain rfl := Option.some.inj h
      exact hn _ rfl _ _ _ hw (lv_sub hl [2, 3, 4, 1, 0] rfl)
    · rw [if_neg t2] at h
      refine lv_aload_n hx hb dX11_alike_41 rfl (lv_at hl 0 rfl) ?_
      refine lv_iload_n hx hb dX11_alike_42 rfl (lv_at hl 1 rfl) ?_
      refine lv_iload hx hb dX11_alike_43 (lv_at hl 4 rfl) ?_
      obtain ⟨r3, e4, h⟩ := zbind h
      refine z_cVi (As := [.int x1, .int x4]) (rest := [.int x3]) ⟨hx, hb, hml, hown, hts⟩ hK hw hA (kX11_meantBy l D g ad σ x1 x4 r3 e4) (zcwV 2 hts zgoodIn zw_985 zw_987 zw_32 zw_64 zw_988 rfl rfl hX11_meantBy ⟨Nat.le_of_ble_eq_true rfl, Nat.le_of_ble_eq_true rfl⟩) zO1_0 rfl hl.1 rfl (Nat.le_of_ble_eq_true rfl) dX11_alike_45 ⟨Nat.zero_le _, Nat.zero_le _⟩ (fun H locs hw => ?_)
      refine lv_aload_n hx hb dX11_alike_48 rfl (lv_at hl 0 rfl) ?_
      refine lv_iload_n hx hb dX11_alike_49 rfl (lv_at hl 1 rfl) ?_
      refine lv_iload_n hx hb dX11_alike_50 rfl (lv_at hl 2 rfl) ?_
      obtain ⟨r5, e6, h⟩ := zbind h
      refine z_cVi (As := [.int x1, .int x2]) (rest := [.int r3, .int x3]) ⟨hx, hb, hml, hown, hts⟩ hK hw hA (kX11_meantBy l D g ad σ x1 x2 r5 e6) (zcwV 2 hts zgoodIn zw_985 zw_987 zw_32 zw_64 zw_988 rfl rfl hX11_meantBy ⟨Nat.le_of_ble_eq_true rfl, Nat.le_of_ble_eq_true rfl⟩) zO1_0 rfl hl.1 rfl (Nat.le_of_ble_eq_true rfl) dX11_alike_51 ⟨Nat.zero_le _, Nat.zero_le _⟩ (fun H locs hw => ?_)
      refine lv_icmp_ne (tgt := 64) hx hb dX11_alike_54 (by decide) (fun t7 => ?_) (fun t7 => ?_)
      · rw [if_neg t7] at h
        refine lv_iconst (v := 0) hx hb dX11_alike_64 (by decide) ?_
        refine lv_ior hx hb dX11_alike_65 ?_
        refine lv_istore_n (lv' := [(3, .int (x3 ||| (0 : Int32))), (0, .ref (ad 0)), (1, .int x1), (2, .int x2), (4, .int x4)]) hx hb dX11_alike_66 rfl hl (by decide) rfl (fun ls hl => ?_)
        refine lv_iinc (v := x4 + 1) (lv' := [(4, .int (x4 + 1)), (3, .int (x3 ||| (0 : Int32))), (0, .ref (ad 0)), (1, .int x1), (2, .int x2)]) hx hb dX11_alike_67 hl (k := 4) rfl rfl (by decide) rfl (fun ls hl => ?_)
        refine lv_goto (tgt := 25) hx hb dX11_alike_70 (by decide) ?_
        obtain rfl := Option.some.inj h
        exact hn _ rfl _ _ _ hw (lv_sub hl [2, 3, 4, 1, 0] rfl)
      · rw [if_pos t7] at h
        refine lv_iconst (v := 1) hx hb dX11_alike_57 (by decide) ?_
        refine lv_iload hx hb dX11_alike_58 (lv_at hl 4 rfl) ?_
        refine lv_ishl hx hb dX11_alike_60 ?_
        refine lv_goto (tgt := 65) hx hb dX11_alike_61 (by decide) ?_
        refine lv_ior hx hb dX11_alike_65 ?_
        refine lv_istore_n (lv' := [(3, .int (x3 ||| ((1 : Int32) <<< (x4 &&& 31)))), (0, .ref (ad 0)), (1, .int x1), (2, .int x2), (4, .int x4)]) hx hb dX11_alike_66 rfl hl (by decide) rfl (fun ls hl => ?_)
        refine lv_iinc (v := x4 + 1) (lv' := [(4, .int (x4 + 1)), (3, .int (x3 ||| ((1 : Int32) <<< (x4 &&& 31)))), (0, .ref (ad 0)), (1, .int x1), (2, .int x2)]) hx hb dX11_alike_67 hl (k := 4) rfl rfl (by decide) rfl (fun ls hl => ?_)
        refine lv_goto (tgt := 25) hx hb dX11_alike_70 (by decide) ?_
        obtain rfl := Option.some.inj h
        exact hn _ rfl _ _ _ hw (lv_sub hl [2, 3, 4, 1, 0] rfl)
theorem hX11_alike : yX11_alike.cls = RX11 ∧ yX11_alike.cls ≠ "java/lang/invoke/MethodHandle" ∧ yX11_alike.cls ≠ "java/lang/invoke/VarHandle" ∧ (parseMethodDescriptor yX11_alike.desc).map (fun d => d.parameters.length) = some 2 := by decide +kernel
set_option maxHeartbeats 4000000 in
set_option maxRecDepth 100000 in
theorem kX11_alike (l : Launch) (D : va_G) (g : zG) (ad : Nat → Nat) (σ : zSt) (x1 : Int32) (x2 : Int32) (o : Int32) (h : fX11_alike σ x1 x2 = some o) : zMi l D g 1 ad yX11_alike (Cond.code yX11_alike cX11_alike 5 (some .int) :: zws) (zRm 2) [.ref (ad 0), .int x1, .int x2] σ o σ := by
  refine z_enter_i (by decide) (Nat.le_of_ble_eq_true rfl) ?_
  intro p e s m below meth c A ls Q C hw hl hret
  obtain ⟨hx, hb, hml, hown, hts, hK, hA⟩ := id C
  have hown : s.vm.findClass RX11 = some m.cls := hown
  have C : zCx p c cX11_alike s _ RX11 m 5 A s.heap D g := C
  have hl : lv_has ls 5 [(0, .ref (ad 0)), (1, .int x1), (2, .int x2)] := hl
  unfold fX11_alike at h
  refine lv_aload_n hx hb dX11_alike_0 rfl (lv_at hl 0 rfl) ?_
  refine lv_iload_n hx hb dX11_alike_1 rfl (lv_at hl 2 rfl) ?_
  refine z_cVi (As := [.int x2]) (rest := []) ⟨hx, hb, hml, hown, hts⟩ hK hw hA (kX11_isWord l D g ad σ x2 _ rfl) (zcwV 1 hts zgoodIn zw_964 zw_966 zw_30 zw_64 zw_967 rfl rfl hX11_isWord ⟨Nat.le_of_ble_eq_true rfl, Nat.le_of_ble_eq_true rfl⟩) zO1_0 rfl hl.1 rfl (Nat.le_of_ble_eq_true rfl) dX11_alike_2 ⟨Nat.zero_le _, Nat.zero_le _⟩ (fun H locs hw => ?_)
  refine lv_if_ne (tgt := 10) hx hb dX11_alike_5 (by decide) (fun t1 => ?_) (fun t1 => ?_)
  · rw [if_neg t1] at h
    refine lv_iload_n hx hb dX11_alike_10 rfl (lv_at hl 1 rfl) ?_
    refine z_cSi (As := [.int x1]) (rest := []) ⟨hx, hb, hml, hown, hts⟩ hK hw hA (kX11_isWay l D g ad σ x1 _ rfl) (zcwS 1 hts zgoodIn zw_972 zw_973 zw_64 zw_974 rfl rfl hX11_isWay ⟨Nat.le_of_ble_eq_true rfl, Nat.le_of_ble_eq_true rfl⟩) rfl hl.1 rfl (Nat.le_of_ble_eq_true rfl) dX11_alike_11 ⟨Nat.zero_le _, Nat.zero_le _⟩ (fun H locs hw => ?_)
    refine lv_if_ne (tgt := 20) hx hb dX11_alike_14 (by decide) (fun t2 => ?_) (fun t2 => ?_)
    · rw [if_neg t2] at h
      refine lv_iconst (v := 0) hx hb dX11_alike_20 (by decide) ?_
      refine lv_istore_n (lv' := [(3, .int (0 : Int32)), (0, .ref (ad 0)), (1, .int x1), (2, .int x2)]) hx hb dX11_alike_21 rfl hl (by decide) rfl (fun ls hl => ?_)
      refine lv_iconst (v := 0) hx hb dX11_alike_22 (by decide) ?_
      refine lv_istore (lv' := [(4, .int (0 : Int32)), (3, .int (0 : Int32)), (0, .ref (ad 0)), (1, .int x1), (2, .int x2)]) hx hb dX11_alike_23 hl (by decide) rfl (fun ls hl => ?_)
      obtain ⟨b3, e4, h⟩ := zbind h
      refine wX11_alike_25 C σ x1 x2 zFU ((0 : Int32), (0 : Int32)) b3 e4 (fun H locs ls hw hl => ?_) _ _ _ hw (lv_sub hl [2, 3, 4, 1, 0] rfl)
      have hl : lv_has ls 5 [(0, .ref (ad 0)), (1, .int x1), (2, .int x2), (3, .int b3.1), (4, .int b3.2)] := hl
      refine lv_iload_n hx hb dX11_alike_73 rfl (lv_at hl 3 rfl) ?_
      obtain rfl := Option.some.inj h
      exact hret _ _ _ _ hw rfl dX11_alike_74
    · rw [if_pos t2] at h
      refine lv_bipush (v := (-2)) hx hb dX11_alike_17 (by decide) ?_
      obtain rfl := Option.some.inj h
      exact hret _ _ _ _ hw rfl dX11_alike_19
  · rw [if_pos t1] at h
    refine lv_iconst (v := (-1)) hx hb dX11_alike_8 (by decide) ?_
    obtain rfl := Option.some.inj h
    exact hret _ _ _ _ hw rfl dX11_alike_9
theorem hX11_isInterpreter : yX11_isInterpreter.cls = RX11 ∧ yX11_isInterpreter.cls ≠ "java/lang/invoke/MethodHandle" ∧ yX11_isInterpreter.cls ≠ "java/lang/invoke/VarHandle" ∧ (parseMethodDescriptor yX11_isInterpreter.desc).map (fun d => d.parameters.length) = some 1 := by decide +kernel
set_option maxHeartbeats 4000000 in
set_option maxRecDepth 100000 in
theorem kX11_isInterpreter (l : Launch) (D : va_G) (g : zG) (ad : Nat → Nat) (σ : zSt) (x1 : Int32) (o : Int32) (h : fX11_isInterpreter σ x1 = o) : zMi l D g 1 ad yX11_isInterpreter (Cond.code yX11_isInterpreter cX11_isInterpreter 2 (some .boolean) :: zws) (zRm 0) [.ref (ad 0), .int x1] σ o σ := by
  refine z_enter_i (by decide) (Nat.le_of_ble_eq_true rfl) ?_
  intro p e s m below meth c A ls Q C hw hl hret
  obtain ⟨hx, hb, hml, hown, hts, hK, hA⟩ := id C
  have hown : s.vm.findClass RX11 = some m.cls := hown
  have C : zCx p c cX11_isInterpreter s _ RX11 m 2 A s.heap D g := C
  have hl : lv_has ls 2 [(0, .ref (ad 0)), (1, .int x1)] := hl
  unfold fX11_isInterpreter at h
  refine lv_iload_n hx hb dX11_isInterpreter_0 rfl (lv_at hl 1 rfl) ?_
  refine lv_if_lt (tgt := 16) hx hb dX11_isInterpreter_1 (by decide) (fun t1 => ?_) (fun t1 => ?_)
  · rw [if_pos t1] at h
    refine lv_iconst (v := 0) hx hb dX11_isInterpreter_16 (by decide) ?_
    subst h
    exact hret _ _ _ _ hw zb0 dX11_isInterpreter_17
  · rw [if_neg t1] at h
    refine lv_iload_n hx hb dX11_isInterpreter_4 rfl (lv_at hl 1 rfl) ?_
    refine lv_aload_n hx hb dX11_isInterpreter_5 rfl (lv_at hl 0 rfl) ?_
    refine z_geti hx hb hts zin_X11 hown hK hw zF1_0_11 (hts _ zw_849) dX11_isInterpreter_6 ?_
    refine lv_icmp_ge (tgt := 16) hx hb dX11_isInterpreter_9 (by decide) (fun t2 => ?_) (fun t2 => ?_)
    · rw [if_pos t2] at h
      refine lv_iconst (v := 0) hx hb dX11_isInterpreter_16 (by decide) ?_
      subst h
      exact hret _ _ _ _ hw zb0 dX11_isInterpreter_17
    · rw [if_neg t2] at h
      refine lv_iconst (v := 1) hx hb dX11_isInterpreter_12 (by decide) ?_
      refine lv_goto (tgt := 17) hx hb dX11_isInterpreter_13 (by decide) ?_
      subst h
      exact hret _ _ _ _ hw zb1 dX11_isInterpreter_17
theorem hX11_interpreter : yX11_interpreter.cls = RX11 ∧ yX11_interpreter.cls ≠ "java/lang/invoke/MethodHandle" ∧ yX11_interpreter.cls ≠ "java/lang/invoke/VarHandle" ∧ (parseMethodDescriptor yX11_interpreter.desc).map (fun d => d.parameters.length) = some 2 := by decide +kernel
set_option maxHeartbeats 4000000 in
set_option maxRecDepth 100000 in
theorem kX11_interpreter (l : Launch) (D : va_G) (g : zG) (ad : Nat → Nat) (σ : zSt) (x1 : Int32) (x2 : Int32) (o : Int32 × zSt) (h : fX11_interpreter σ x1 x2 = some o) : zMi l D g 1 ad yX11_interpreter (Cond.code yX11_interpreter cX11_interpreter 3 (some .int) :: zws) (zRm 1) [.ref (ad 0), .int x1, .int x2] σ o.1 o.2 := by
  refine z_enter_i (by decide) (Nat.le_of_ble_eq_true rfl) ?_
  intro p e s m below meth c A ls Q C hw hl hret
  obtain ⟨hx, hb, hml, hown, hts, hK, hA⟩ := id C
  have hown : s.vm.findClass RX11 = some m.cls := hown
  have C : zCx p c cX11_interpreter s _ RX11 m 3 A s.heap D g := C
  have hl : lv_has ls 3 [(0, .ref (ad 0)), (1, .int x1), (2, .int x2)] := hl
  unfold fX11_interpreter at h
  refine lv_iload_n hx hb dX11_interpreter_0 rfl (lv_at hl 1 rfl) ?_
  refine lv_iconst (v := 0) hx hb dX11_interpreter_1 (by decide) ?_
  refine lv_iconst (v := 2) hx hb dX11_interpreter_2 (by decide) ?_
  refine z_cSi (As := [.int x1, .int (0 : Int32), .int (2 : Int32)]) (rest := []) ⟨hx, hb, hml, hown, hts⟩ hK hw hA (kX11_within l D g ad σ x1 (0 : Int32) (2 : Int32) _ rfl) (zcwS 3 hts zgoodIn zw_930 zw_931 zw_64 zw_932 rfl rfl hX11_within ⟨Nat.le_of_ble_eq_true rfl, Nat.le_of_ble_eq_true rfl⟩) rfl hl.1 rfl (Nat.le_of_ble_eq_true rfl) dX11_interpreter_3 ⟨Nat.zero_le _, Nat.zero_le _⟩ (fun H locs hw => ?_)
  refine lv_if_eq (tgt := 19) hx hb dX11_interpreter_6 (by decide) (fun t1 => ?_) (fun t1 => ?_)
  · rw [if_pos t1] at h
    refine lv_bipush (v := (-2)) hx hb dX11_interpreter_19 (by decide) ?_
    obtain rfl := Option.some.inj h
    exact hret _ _ _ _ hw rfl dX11_interpreter_21
  · rw [if_neg t1] at h
    refine lv_iload_n hx hb dX11_interpreter_9 rfl (lv_at hl 2 rfl) ?_
    refine lv_iconst (v := 0) hx hb dX11_interpreter_10 (by decide) ?_
    refine lv_bipush (v := 9) hx hb dX11_interpreter_11 (by decide) ?_
    refine z_cSi (As := [.int x2, .int (0 : Int32), .int (9 : Int32)]) (rest := []) ⟨hx, hb, hml, hown, hts⟩ hK hw hA (kX11_within l D g ad σ x2 (0 : Int32) (9 : Int32) _ rfl) (zcwS 3 hts zgoodIn zw_930 zw_931 zw_64 zw_932 rfl rfl hX11_within ⟨Nat.le_of_ble_eq_true rfl, Nat.le_of_ble_eq_true rfl⟩) rfl hl.1 rfl (Nat.le_of_ble_eq_true rfl) dX11_interpreter_13 ⟨Nat.zero_le _, Nat.zero_le _⟩ (fun H locs hw => ?_)
    refine lv_if_ne (tgt := 22) hx hb dX11_interpreter_16 (by decide) (fun t2 => ?_) (fun t2 => ?_)
    · rw [if_neg t2] at h
      refine lv_aload_n hx hb dX11_interpreter_22 rfl (lv_at hl 0 rfl) ?_
      refine z_geti hx hb hts zin_X11 hown hK hw zF1_0_11 (hts _ zw_849) dX11_interpreter_23 ?_
      refine lv_iconst (v := 4) hx hb dX11_interpreter_26 (by decide) ?_
      refine lv_icmp_ne (tgt := 33) hx hb dX11_interpreter_27 (by decide) (fun t3 => ?_) (fun t3 => ?_)
      · rw [if_neg t3] at h
        refine lv_aload_n hx hb dX11_interpreter_33 rfl (lv_at hl 0 rfl) ?_
        refine z_getc hx hb hts zin_X11 hown hK hw zF1_0_12 (hts _ zw_850) dX11_interpreter_34 ?_
        refine lv_aload_n hx hb dX11_interpreter_37 rfl (lv_at hl 0 rfl) ?_
        refine z_geti hx hb hts zin_X11 hown hK hw zF1_0_11 (hts _ zw_849) dX11_interpreter_38 ?_
        refine lv_iload_n hx hb dX11_interpreter_41 rfl (lv_at hl 1 rfl) ?_
        obtain ⟨s4, e5, h⟩ := zbind h
        refine z_iast hx hb hK hw e5 dX11_interpreter_42 (fun H locs hw => ?_)
        refine lv_aload_n hx hb dX11_interpreter_43 rfl (lv_at hl 0 rfl) ?_
        refine z_getc hx hb hts zin_X11 hown hK hw zF1_0_13 (hts _ zw_851) dX11_interpreter_44 ?_
        refine lv_aload_n hx hb dX11_interpreter_47 rfl (lv_at hl 0 rfl) ?_
        refine z_geti hx hb hts zin_X11 hown hK hw zF1_0_11 (hts _ zw_849) dX11_interpreter_48 ?_
        refine lv_iload_n hx hb dX11_interpreter_51 rfl (lv_at hl 2 rfl) ?_
        obtain ⟨s6, e7, h⟩ := zbind h
        refine z_iast hx hb hK hw e7 dX11_interpreter_52 (fun H locs hw => ?_)
        refine lv_aload_n hx hb dX11_interpreter_53 rfl (lv_at hl 0 rfl) ?_
        refine lv_dup hx hb dX11_interpreter_54 rfl ?_
        refine z_geti hx hb hts zin_X11 hown hK hw zF1_0_11 (hts _ zw_849) dX11_interpreter_55 ?_
        refine lv_iconst (v := 1) hx hb dX11_interpreter_58 (by decide) ?_
        refine lv_iadd hx hb dX11_interpreter_59 ?_
        refine z_puti hx hb hts zin_X11 tyX11_ok nmX11 hown hK hw zF1_0_11 (hts _ zw_849) zY1_0_11 dX11_interpreter_60 (fun H locs hw => ?_)
        refine lv_aload_n hx hb dX11_interpreter_63 rfl (lv_at hl 0 rfl) ?_
        refine z_geti hx hb hts zin_X11 hown hK hw zF1_0_11 (hts _ zw_849) dX11_interpreter_64 ?_
        refine lv_iconst (v := 1) hx hb dX11_interpreter_67 (by decide) ?_
        refine lv_isub hx hb dX11_interpreter_68 ?_
        obtain rfl := Option.some.inj h
        exact hret _ _ _ _ hw rfl dX11_interpreter_69
      · rw [if_pos t3] at h
        refine lv_bipush (v := (-4)) hx hb dX11_interpreter_30 (by decide) ?_
        obtain rfl := Option.some.inj h
        exact hret _ _ _ _ hw rfl dX11_interpreter_32
    · rw [if_pos t2] at h
      refine lv_bipush (v := (-2)) hx hb dX11_interpreter_19 (by decide) ?_
      obtain rfl := Option.some.inj h
      exact hret _ _ _ _ hw rfl dX11_interpreter_21
theorem hX11_ofInterpreter : yX11_ofInterpreter.cls = RX11 ∧ yX11_ofInterpreter.cls ≠ "java/lang/invoke/MethodHandle" ∧ yX11_ofInterpreter.cls ≠ "java/lang/invoke/VarHandle" ∧ (parseMethodDescriptor yX11_ofInterpreter.desc).map (fun d => d.parameters.length) = some 2 := by decide +kernel
set_option maxHeartbeats 4000000 in
set_option maxRecDepth 100000 in
theorem kX11_ofInterpreter (l : Launch) (D : va_G) (g : zG) (ad : Nat → Nat) (σ : zSt) (x1 : Int32) (x2 : Int32) (o : Int32) (h : fX11_ofInterpreter σ x1 x2 = some o) : zMi l D g 1 ad yX11_ofInterpreter (Cond.code yX11_ofInterpreter cX11_ofInterpreter 3 (some .int) :: zws) (zRm 1) [.ref (ad 0), .int x1, .int x2] σ o σ := by
  refine z_enter_i (by decide) (Nat.le_of_ble_eq_true rfl) ?_
  intro p e s m below meth c A ls Q C hw hl hret
  obtain ⟨hx, hb, hml, hown, hts, hK, hA⟩ := id C
  have hown : s.vm.findClass RX11 = some m.cls := hown
  have C : zCx p c cX11_ofInterpreter s _ RX11 m 3 A s.heap D g := C
  have hl : lv_has ls 3 [(0, .ref (ad 0)), (1, .int x1), (2, .int x2)] := hl
  unfold fX11_ofInterpreter at h
  refine lv_aload_n hx hb dX11_ofInterpreter_0 rfl (lv_at hl 0 rfl) ?_
  refine lv_iload_n hx hb dX11_ofInterpreter_1 rfl (lv_at hl 1 rfl) ?_
  refine z_cVi (As := [.int x1]) (rest := []) ⟨hx, hb, hml, hown, hts⟩ hK hw hA (kX11_isInterpreter l D g ad σ x1 _ rfl) (zcwV 1 hts zgoodIn zw_1001 zw_1003 zw_33 zw_64 zw_1004 rfl rfl hX11_isInterpreter ⟨Nat.le_of_ble_eq_true rfl, Nat.le_of_ble_eq_true rfl⟩) zO1_0 rfl hl.1 rfl (Nat.le_of_ble_eq_true rfl) dX11_ofInterpreter_2 ⟨Nat.zero_le _, Nat.zero_le _⟩ (fun H locs hw => ?_)
  refine lv_if_ne (tgt := 10) hx hb dX11_ofInterpreter_5 (by decide) (fun t1 => ?_) (fun t1 => ?_)
  · rw [if_neg t1] at h
    refine lv_iload_n hx hb dX11_ofInterpreter_10 rfl (lv_at hl 2 rfl) ?_
    refine lv_if_ne (tgt := 23) hx hb dX11_ofInterpreter_11 (by decide) (fun t2 => ?_) (fun t2 => ?_)
    · rw [if_neg t2] at h
      refine lv_iload_n hx hb dX11_ofInterpreter_23 rfl (lv_at hl 2 rfl) ?_
      refine lv_iconst (v := 1) hx hb dX11_ofInterpreter_24 (by decide) ?_
      refine lv_icmp_ne (tgt := 37) hx hb dX11_ofInterpreter_25 (by decide) (fun t3 => ?_) (fun t3 => ?_)
      · rw [if_neg t3] at h
        refine lv_bipush (v := (-2)) hx hb dX11_ofInterpreter_37 (by decide) ?_
        obtain rfl := Option.some.inj h
        exact hret _ _ _ _ hw rfl dX11_ofInterpreter_39
      · rw [if_pos t3] at h
        refine lv_aload_n hx hb dX11_ofInterpreter_28 rfl (lv_at hl 0 rfl) ?_
        refine z_getc hx hb hts zin_X11 hown hK hw zF1_0_13 (hts _ zw_851) dX11_ofInterpreter_29 ?_
        refine lv_iload_n hx hb dX11_ofInterpreter_32 rfl (lv_at hl 1 rfl) ?_
        obtain ⟨v4, e5, h⟩ := zbind h
        refine z_iald hx hb hK hw e5 dX11_ofInterpreter_33 ?_
        refine lv_goto (tgt := 39) hx hb dX11_ofInterpreter_34 (by decide) ?_
        obtain rfl := Option.some.inj h
        exact hret _ _ _ _ hw rfl dX11_ofInterpreter_39
    · rw [if_pos t2] at h
      refine lv_aload_n hx hb dX11_ofInterpreter_14 rfl (lv_at hl 0 rfl) ?_
      refine z_getc hx hb hts zin_X11 hown hK hw zF1_0_12 (hts _ zw_850) dX11_ofInterpreter_15 ?_
      refine lv_iload_n hx hb dX11_ofInterpreter_18 rfl (lv_at hl 1 rfl) ?_
      obtain ⟨v6, e7, h⟩ := zbind h
      refine z_iald hx hb hK hw e7 dX11_ofInterpreter_19 ?_
      refine lv_goto (tgt := 39) hx hb dX11_ofInterpreter_20 (by decide) ?_
      obtain rfl := Option.some.inj h
      exact hret _ _ _ _ hw rfl dX11_ofInterpreter_39
  · rw [if_pos t1] at h
    refine lv_iconst (v := (-1)) hx hb dX11_ofInterpreter_8 (by decide) ?_
    obtain rfl := Option.some.inj h
    exact hret _ _ _ _ hw rfl dX11_ofInterpreter_9
theorem hX11_tire : yX11_tire.cls = RX11 ∧ yX11_tire.cls ≠ "java/lang/invoke/MethodHandle" ∧ yX11_tire.cls ≠ "java/lang/invoke/VarHandle" ∧ (parseMethodDescriptor yX11_tire.desc).map (fun d => d.parameters.length) = some 2 := by decide +kernel
set_option maxHeartbeats 4000000 in
set_option maxRecDepth 100000 in
theorem kX11_tire (l : Launch) (D : va_G) (g : zG) (ad : Nat → Nat) (σ : zSt) (x1 : Int32) (x2 : Int32) (o : Int32 × zSt) (h : fX11_tire σ x1 x2 = some o) : zMi l D g 1 ad yX11_tire (Cond.code yX11_tire cX11_tire 4 (some .int) :: zws) (zRm 1) [.ref (ad 0), .int x1, .int x2] σ o.1 o.2 := by
  refine z_enter_i (by decide) (Nat.le_of_ble_eq_true rfl) ?_
  intro p e s m below meth c A ls Q C hw hl hret
  obtain ⟨hx, hb, hml, hown, hts, hK, hA⟩ := id C
  have hown : s.vm.findClass RX11 = some m.cls := hown
  have C : zCx p c cX11_tire s _ RX11 m 4 A s.heap D g := C
  have hl : lv_has ls 4 [(0, .ref (ad 0)), (1, .int x1), (2, .int x2)] := hl
  unfold fX11_tire at h
  refine lv_aload_n hx hb dX11_tire_0 rfl (lv_at hl 0 rfl) ?_
  refine lv_iload_n hx hb dX11_tire_1 rfl (lv_at hl 1 rfl) ?_
  refine z_cVi (As := [.int x1]) (rest := []) ⟨hx, hb, hml, hown, hts⟩ hK hw hA (kX11_isInterpreter l D g ad σ x1 _ rfl) (zcwV 1 hts zgoodIn zw_1001 zw_1003 zw_33 zw_64 zw_1004 rfl rfl hX11_isInterpreter ⟨Nat.le_of_ble_eq_true rfl, Nat.le_of_ble_eq_true rfl⟩) zO1_0 rfl hl.1 rfl (Nat.le_of_ble_eq_true rfl) dX11_tire_2 ⟨Nat.zero_le _, Nat.zero_le _⟩ (fun H locs hw => ?_)
  refine lv_if_ne (tgt := 10) hx hb dX11_tire_5 (by decide) (fun t1 => ?_) (fun t1 => ?_)
  · rw [if_neg t1] at h
    refine lv_iload_n hx hb dX11_tire_10 rfl (lv_at hl 2 rfl) ?_
    refine lv_iconst (v := 0) hx hb dX11_tire_11 (by decide) ?_
    refine lv_bipush (v := 9) hx hb dX11_tire_12 (by decide) ?_
    refine z_cSi (As := [.int x2, .int (0 : Int32), .int (9 : Int32)]) (rest := []) ⟨hx, hb, hml, hown, hts⟩ hK hw hA (kX11_within l D g ad σ x2 (0 : Int32) (9 : Int32) _ rfl) (zcwS 3 hts zgoodIn zw_930 zw_931 zw_64 zw_932 rfl rfl hX11_within ⟨Nat.le_of_ble_eq_true rfl, Nat.le_of_ble_eq_true rfl⟩) rfl hl.1 rfl (Nat.le_of_ble_eq_true rfl) dX11_tire_14 ⟨Nat.zero_le _, Nat.zero_le _⟩ (fun H locs hw => ?_)
    refine lv_if_ne (tgt := 23) hx hb dX11_tire_17 (by decide) (fun t2 => ?_) (fun t2 => ?_)
    · rw [if_neg t2] at h
      refine lv_aload_n hx hb dX11_tire_23 rfl (lv_at hl 0 rfl) ?_
      refine z_getc hx hb hts zin_X11 hown hK hw zF1_0_13 (hts _ zw_851) dX11_tire_24 ?_
      refine lv_iload_n hx hb dX11_tire_27 rfl (lv_at hl 1 rfl) ?_
      obtain ⟨v3, e4, h⟩ := zbind h
      refine z_iald hx hb hK hw e4 dX11_tire_28 ?_
      refine lv_istore_n (lv' := [(3, .int v3), (0, .ref (ad 0)), (1, .int x1), (2, .int x2)]) hx hb dX11_tire_29 rfl hl (by decide) rfl (fun ls hl => ?_)
      refine lv_aload_n hx hb dX11_tire_30 rfl (lv_at hl 1 rfl) ?_
      refine z_getc hx hb hts zin_X11 hown hK hw zF1_0_13 (hts _ zw_851) dX11_tire_31 ?_
      refine lv_iload_n hx hb dX11_tire_34 rfl (lv_at hl 2 rfl) ?_
      refine lv_iload_n hx hb dX11_tire_35 rfl (lv_at hl 3 rfl) ?_
      obtain ⟨s5, e6, h⟩ := zbind h
      refine z_iast hx hb hK hw e6 dX11_tire_36 (fun H locs hw => ?_)
      refine lv_iload_n hx hb dX11_tire_37 rfl (lv_at hl 0 rfl) ?_
      obtain rfl := Option.some.inj h
      exact hret _ _ _ _ hw rfl dX11_tire_38
    · rw [if_pos t2] at h
      refine lv_bipush (v := (-2)) hx hb dX11_tire_20 (by decide) ?_
      obtain rfl := Option.some.inj h
      exact hret _ _ _ _ hw rfl dX11_tire_22
  · rw [if_pos t1] at h
    refine lv_iconst (v := (-1)) hx hb dX11_tire_8 (by decide) ?_
    obtain rfl := Option.some.inj h
    exact hret _ _ _ _ hw rfl dX11_tire_9
set_option maxHeartbeats 4000000 in
set_option maxRecDepth 100000 in
theorem wX11_plainly_103 {p : Program} {l : Launch} {e : Env} {s : State} {m : MethodId} {args : Array Value} {below : List Frame} {meth : Method} {c : Code} {A : Nat → Prop} {H0 : Heap} {Q : State → Prop} {D : va_G} {g : zG} {ad : Nat → Nat} (C : zCx p c cX11_plainly s args RX11 m 10 A H0 D g) (σ : zSt) (x1 : Int32) (x5 : Int32) (x6 : Int32) (x7 : Int32) (n : Nat) (a : (Int32 × Int32)) (b : (Int32 × Int32)) (h : zLp (fun a => bX11_plainly_103 σ x1 x5 x6 x7 a.1 a.2) n a = some b) (hk : ∀ (H : Heap) (locs : List Loc) (ls : Array Slot), zH D g 1 ad A H0 σ H locs → lv_has ls 10 [(0, .ref (ad 0)), (1, .int x1), (5, .int x5), (6, .int x6), (7, .int x7), (8, .int b.1), (9, .int b.2)] → W p l e (zRm 2) s m args below meth c H locs 0 0 Q (F0 m 161 ls [])) : ∀ (H : Heap) (locs : List Loc) (ls : Array Slot), zH D g 1 ad A H0 σ H locs → lv_has ls 10 [(0, .ref (ad 0)), (1, .int x1), (5, .int x5), (6, .int x6), (7, .int x7), (8, .int a.1), (9, .int a.2)] → W p l e (zRm 2) s m args below meth c H locs 0 0 Q (F0 m 103 ls []) := by
  obtain ⟨hx, hb, hml, hown, hts, hK, hA⟩ := id C
  refine zLp_walk (P := fun (a : (Int32 × Int32)) => ∀ (H : Heap) (locs : List Loc) (ls : Array Slot), zH D g 1 ad A H0 σ H locs → lv_has ls 10 [(0, .ref (ad 0)), (1, .int x1), (5, .int x5), (6, .int x6), (7, .int x7), (8, .int a.1), (9, .int a.2)] → W p l e (zRm 2) s m args below meth c H locs 0 0 Q (F0 m 103 ls [])) (E := fun (b' : (Int32 × Int32)) => b' = b) ?_ n a b h rfl
  intro a r h hn he H locs ls hw hl
  obtain ⟨x8, x9⟩ := a
  have h : bX11_plainly_103 σ x1 x5 x6 x7 x8 x9 = some r := h
  have hl : lv_has ls 10 [(0, .ref (ad 0)), (1, .int x1), (5, .int x5), (6, .int x6), (7, .int x7), (8, .int x8), (9, .int x9)] := hl
  have hw : zH D g 1 ad A H0 σ H locs := hw
  unfold bX11_plainly_103 at h
  refine lv_iload hx hb dX11_plainly_103 (lv_at hl 6 rfl) ?_
  refine lv_aload_n hx hb dX11_plainly_105 rfl (lv_at hl 0 rfl) ?_
  refine z_geti hx hb hts zin_X11 hown hK hw zF1_0_5 (hts _ zw_843) dX11_plainly_106 ?_
  refine lv_icmp_ge (tgt := 161) hx hb dX11_plainly_109 (by decide) (fun t1 => ?_) (fun t1 => ?_)
  · rw [if_pos t1] at h
    obtain rfl := Option.some.inj h
    obtain rfl := he _ rfl
    exact hk _ _ _ hw (lv_sub hl [0, 1, 2, 3, 4, 5, 6] rfl)
  · rw [if_neg t1] at h
    refine lv_iload_n hx hb dX11_plainly_112 rfl (lv_at hl 1 rfl) ?_
    refine lv_if_le (tgt := 161) hx hb dX11_plainly_113 (by decide) (fun t2 => ?_) (fun t2 => ?_)
    · rw [if_pos t2] at h
      obtain rfl := Option.some.inj h
      obtain rfl := he _ rfl
      exact hk _ _ _ hw (lv_sub hl [0, 1, 2, 3, 4, 5, 6] rfl)
    · rw [if_neg t2] at h
      refine lv_iload hx hb dX11_plainly_116 (lv_at hl 5 rfl) ?_
      refine lv_iload hx hb dX11_plainly_118 (lv_at hl 6 rfl) ?_
      refine lv_iload hx hb dX11_plainly_120 (lv_at hl 4 rfl) ?_
      refine lv_icmp_ne (tgt := 129) hx hb dX11_plainly_122 (by decide) (fun t3 => ?_) (fun t3 => ?_)
      · rw [if_neg t3] at h
        refine lv_aload_n hx hb dX11_plainly_129 rfl (lv_at hl 0 rfl) ?_
        refine z_getc hx hb hts zin_X11 hown hK hw zF1_0_6 (hts _ zw_844) dX11_plainly_130 ?_
        refine lv_iload hx hb dX11_plainly_133 (lv_at hl 2 rfl) ?_
        refine lv_iload hx hb dX11_plainly_135 (lv_at hl 6 rfl) ?_
        refine lv_iadd hx hb dX11_plainly_137 ?_
        obtain ⟨v4, e5, h⟩ := zbind h
        refine z_iald hx hb hK hw e5 dX11_plainly_138 ?_
        refine lv_aload_n hx hb dX11_plainly_139 rfl (lv_at hl 0 rfl) ?_
        refine z_getc hx hb hts zin_X11 hown hK hw zF1_0_6 (hts _ zw_844) dX11_plainly_140 ?_
        refine lv_iload hx hb dX11_plainly_143 (lv_at hl 2 rfl) ?_
        refine lv_iload hx hb dX11_plainly_145 (lv_at hl 6 rfl) ?_
        refine lv_iadd hx hb dX11_plainly_147 ?_
        obtain ⟨v6, e7, h⟩ := zbind h
        refine z_iald hx hb hK hw e7 dX11_plainly_148 ?_
        refine lv_iconst (v := 2) hx hb dX11_plainly_149 (by decide) ?_
        refine lv_idiv hx hb dX11_plainly_150 (by decide) ?_
        refine lv_isub hx hb dX11_plainly_151 ?_
        refine lv_iadd hx hb dX11_plainly_152 ?_
        refine lv_istore (lv' := [(8, .int (x8 + (v4 - (v6 / (2 : Int32))))), (0, .ref (ad 0)), (1, .int x1), (5, .int x5), (6, .int x6), (7, .int x7), (9, .int x9)]) hx hb dX11_plainly_153 hl (by decide) rfl (fun ls hl => ?_)
        refine lv_iinc (v := x9 + 1) (lv' := [(9, .int (x9 + 1)), (8, .int (x8 + (v4 - (v6 / (2 : Int32))))), (0, .ref (ad 0)), (1, .int x1), (5, .int x5), (6, .int x6), (7, .int x7)]) hx hb dX11_plainly_155 hl (k := 6) rfl rfl (by decide) rfl (fun ls hl => ?_)
        refine lv_goto (tgt := 103) hx hb dX11_plainly_158 (by decide) ?_
        obtain rfl := Option.some.inj h
        exact hn _ rfl _ _ _ hw (lv_sub hl [2, 3, 4, 5, 6, 1, 0] rfl)
      · rw [if_pos t3] at h
        refine lv_iconst (v := 0) hx hb dX11_plainly_125 (by decide) ?_
        refine lv_goto (tgt := 152) hx hb dX11_plainly_126 (by decide) ?_
        refine lv_iadd hx hb dX11_plainly_152 ?_
        refine lv_istore (lv' := [(8, .int (x8 + (0 : Int32))), (0, .ref (ad 0)), (1, .int x1), (5, .int x5), (6, .int x6), (7, .int x7), (9, .int x9)]) hx hb dX11_plainly_153 hl (by decide) rfl (fun ls hl => ?_)
        refine lv_iinc (v := x9 + 1) (lv' := [(9, .int (x9 + 1)), (8, .int (x8 + (0 : Int32))), (0, .ref (ad 0)), (1, .int x1), (5, .int x5), (6, .int x6), (7, .int x7)]) hx hb dX11_plainly_155 hl (k := 6) rfl rfl (by decide) rfl (fun ls hl => ?_)
        refine lv_goto (tgt := 103) hx hb dX11_plainly_158 (by decide) ?_
        obtain rfl := Option.some.inj h
        exact hn _ rfl _ _ _ hw (lv_sub hl [2, 3, 4, 5, 6, 1, 0] rfl)
theorem hX11_plainly : yX11_plainly.cls = RX11 ∧ yX11_plainly.cls ≠ "java/lang/invoke/MethodHandle" ∧ yX11_plainly.cls ≠ "java/lang/invoke/VarHandle" ∧ (parseMethodDescriptor yX11_plainly.desc).map (fun d => d.parameters.length) = some 4 := by decide +kernel
set_option maxHeartbeats 4000000 in
set_option maxRecDepth 100000 in
theorem kX11_plainly (l : Launch) (D : va_G) (g : zG) (ad : Nat → Nat) (σ : zSt) (x1 : Int32) (x2 : Int32) (x3 : Int32) (x4 : Int32) (o : Int32) (h : fX11_plainly σ x1 x2 x3 x4 = some o) : zMi l D g 1 ad yX11_plainly (Cond.code yX11_plainly cX11_plainly 10 (some .int) :: zws) (zRm 2) [.ref (ad 0), .int x1, .int x2, .int x3, .int x4] σ o σ := by
  refine z_enter_i (by decide) (Nat.le_of_ble_eq_true rfl) ?_
  intro p e s m below meth c A ls Q C hw hl hret
  obtain ⟨hx, hb, hml, hown, hts, hK, hA⟩ := id C
  have hown : s.vm.findClass RX11 = some m.cls := hown
  have C : zCx p c cX11_plainly s _ RX11 m 10 A s.heap D g := C
  have hl : lv_has ls 10 [(0, .ref (ad 0)), (1, .int x1), (2, .int x2), (3, .int x3), (4, .int x4)] := hl
  unfold fX11_plainly at h
  refine lv_iload_n hx hb dX11_plainly_0 rfl (lv_at hl 2 rfl) ?_
  refine lv_iload_n hx hb dX11_plainly_1 rfl (lv_at hl 3 rfl) ?_
  refine z_cSi (As := [.int x2, .int x3]) (rest := []) ⟨hx, hb, hml, hown, hts⟩ hK hw hA (kX11_rowOf l D g ad σ x2 x3 _ rfl) (zcwS 2 hts zgoodIn zw_975 zw_976 zw_64 zw_977 rfl rfl hX11_rowOf ⟨Nat.le_of_ble_eq_true rfl, Nat.le_of_ble_eq_true rfl⟩) rfl hl.1 rfl (Nat.le_of_ble_eq_true rfl) dX11_plainly_2 ⟨Nat.zero_le _, Nat.zero_le _⟩ (fun H locs hw => ?_)
  refine lv_istore (lv' := [(5, .int (fX11_rowOf x2 x3)), (0, .ref (ad 0)), (1, .int x1), (2, .int x2), (3, .int x3), (4, .int x4)]) hx hb dX11_plainly_5 hl (by decide) rfl (fun ls hl => ?_)
  refine lv_aload_n hx hb dX11_plainly_7 rfl (lv_at hl 1 rfl) ?_
  refine z_getc hx hb hts zin_X11 hown hK hw zF1_0_6 (hts _ zw_844) dX11_plainly_8 ?_
  refine lv_iload hx hb dX11_plainly_11 (lv_at hl 0 rfl) ?_
  refine lv_aload_n hx hb dX11_plainly_13 rfl (lv_at hl 1 rfl) ?_
  refine z_geti hx hb hts zin_X11 hown hK hw zF1_0_5 (hts _ zw_843) dX11_plainly_14 ?_
  obtain ⟨r1, e2, h⟩ := zbind h
  refine z_cSi (As := [.ref (ad 4), .int (fX11_rowOf x2 x3), .int (zI σ 0 5)]) (rest := []) ⟨hx, hb, hml, hown, hts⟩ hK hw hA (kX11_lacks l D g ad σ 4 (fX11_rowOf x2 x3) (zI σ 0 5) r1 e2) (zcwS 3 hts zgoodIn zw_978 zw_979 zw_64 zw_980 rfl rfl hX11_lacks ⟨Nat.le_of_ble_eq_true rfl, Nat.le_of_ble_eq_true rfl⟩) rfl hl.1 rfl (Nat.le_of_ble_eq_true rfl) dX11_plainly_17 ⟨Nat.zero_le _, Nat.zero_le _⟩ (fun H locs hw => ?_)
  refine lv_istore (lv' := [(6, .int r1), (5, .int (fX11_rowOf x2 x3)), (0, .ref (ad 0)), (1, .int x1), (2, .int x2), (3, .int x3), (4, .int x4)]) hx hb dX11_plainly_20 hl (by decide) rfl (fun ls hl => ?_)
  refine lv_iload hx hb dX11_plainly_22 (lv_at hl 6 rfl) ?_
  refine lv_aload_n hx hb dX11_plainly_24 rfl (lv_at hl 2 rfl) ?_
  refine z_geti hx hb hts zin_X11 hown hK hw zF1_0_5 (hts _ zw_843) dX11_plainly_25 ?_
  refine lv_icmp_ne (tgt := 43) hx hb dX11_plainly_28 (by decide) (fun t3 => ?_) (fun t3 => ?_)
  · rw [if_neg t3] at h
    refine lv_aload_n hx hb dX11_plainly_43 rfl (lv_at hl 2 rfl) ?_
    refine lv_iload_n hx hb dX11_plainly_44 rfl (lv_at hl 4 rfl) ?_
    refine lv_iload_n hx hb dX11_plainly_45 rfl (lv_at hl 5 rfl) ?_
    obtain ⟨r4, e5, h⟩ := zbind h
    refine z_cVi (As := [.int x2, .int x3]) (rest := []) ⟨hx, hb, hml, hown, hts⟩ hK hw hA (kX11_meantBy l D g ad σ x2 x3 r4 e5) (zcwV 2 hts zgoodIn zw_985 zw_987 zw_32 zw_64 zw_988 rfl rfl hX11_meantBy ⟨Nat.le_of_ble_eq_true rfl, Nat.le_of_ble_eq_true rfl⟩) zO1_0 rfl hl.1 rfl (Nat.le_of_ble_eq_true rfl) dX11_plainly_46 ⟨Nat.zero_le _, Nat.zero_le _⟩ (fun H locs hw => ?_)
    refine lv_istore (lv' := [(7, .int r4), (6, .int r1), (5, .int (fX11_rowOf x2 x3)), (0, .ref (ad 0)), (1, .int x1), (2, .int x2), (3, .int x3), (4, .int x4)]) hx hb dX11_plainly_49 hl (by decide) rfl (fun ls hl => ?_)
    refine lv_iload hx hb dX11_plainly_51 (lv_at hl 7 rfl) ?_
    refine lv_iload hx hb dX11_plainly_53 (lv_at hl 0 rfl) ?_
    refine lv_icmp_eq (tgt := 88) hx hb dX11_plainly_55 (by decide) (fun t6 => ?_) (fun t6 => ?_)
    · rw [if_pos t6] at h
      refine lv_aload_n hx hb dX11_plainly_88 rfl (lv_at hl 3 rfl) ?_
      refine z_getc hx hb hts zin_X11 hown hK hw zF1_0_6 (hts _ zw_844) dX11_plainly_89 ?_
      refine lv_iload hx hb dX11_plainly_92 (lv_at hl 2 rfl) ?_
      refine lv_iload hx hb dX11_plainly_94 (lv_at hl 7 rfl) ?_
      refine lv_iadd hx hb dX11_plainly_96 ?_
      obtain ⟨v7, e8, h⟩ := zbind h
      refine z_iald hx hb hK hw e8 dX11_plainly_97 ?_
      refine lv_istore (lv' := [(8, .int v7), (7, .int r4), (6, .int r1), (5, .int (fX11_rowOf x2 x3)), (0, .ref (ad 0)), (1, .int x1), (2, .int x2), (3, .int x3), (4, .int x4)]) hx hb dX11_plainly_98 hl (by decide) rfl (fun ls hl => ?_)
      refine lv_iconst (v := 0) hx hb dX11_plainly_100 (by decide) ?_
      refine lv_istore (lv' := [(9, .int (0 : Int32)), (8, .int v7), (7, .int r4), (6, .int r1), (5, .int (fX11_rowOf x2 x3)), (0, .ref (ad 0)), (1, .int x1), (2, .int x2), (3, .int x3), (4, .int x4)]) hx hb dX11_plainly_101 hl (by decide) rfl (fun ls hl => ?_)
      obtain ⟨b9, e10, h⟩ := zbind h
      refine wX11_plainly_103 C σ x1 (fX11_rowOf x2 x3) r1 r4 zFU (v7, (0 : Int32)) b9 e10 (fun H locs ls hw hl => ?_) _ _ _ hw (lv_sub hl [5, 6, 4, 3, 2, 1, 0] rfl)
      have hl : lv_has ls 10 [(0, .ref (ad 0)), (1, .int x1), (5, .int (fX11_rowOf x2 x3)), (6, .int r1), (7, .int r4), (8, .int b9.1), (9, .int b9.2)] := hl
      refine lv_iload_n hx hb dX11_plainly_161 rfl (lv_at hl 1 rfl) ?_
      refine lv_iconst (v := 2) hx hb dX11_plainly_162 (by decide) ?_
      refine lv_icmp_ne (tgt := 174) hx hb dX11_plainly_163 (by decide) (fun t11 => ?_) (fun t11 => ?_)
      · rw [if_neg t11] at h
        refine lv_iload hx hb dX11_plainly_174 (lv_at hl 5 rfl) ?_
        obtain rfl := Option.some.inj h
        exact hret _ _ _ _ hw rfl dX11_plainly_176
      · rw [if_pos t11] at h
        refine lv_iload hx hb dX11_plainly_166 (lv_at hl 5 rfl) ?_
        refine lv_iload hx hb dX11_plainly_168 (lv_at hl 3 rfl) ?_
        refine lv_iadd hx hb dX11_plainly_170 ?_
        refine lv_goto (tgt := 176) hx hb dX11_plainly_171 (by decide) ?_
        obtain rfl := Option.some.inj h
        exact hret _ _ _ _ hw rfl dX11_plainly_176
    · rw [if_neg t6] at h
      refine lv_iload_n hx hb dX11_plainly_58 rfl (lv_at hl 4 rfl) ?_
      refine lv_if_le (tgt := 77) hx hb dX11_plainly_59 (by decide) (fun t12 => ?_) (fun t12 => ?_)
      · rw [if_pos t12] at h
        refine lv_aload_n hx hb dX11_plainly_77 rfl (lv_at hl 3 rfl) ?_
        refine z_getc hx hb hts zin_X11 hown hK hw zF1_0_6 (hts _ zw_844) dX11_plainly_78 ?_
        refine lv_iload hx hb dX11_plainly_81 (lv_at hl 2 rfl) ?_
        refine lv_iload hx hb dX11_plainly_83 (lv_at hl 7 rfl) ?_
        refine lv_iadd hx hb dX11_plainly_85 ?_
        obtain ⟨v13, e14, h⟩ := zbind h
        refine z_iald hx hb hK hw e14 dX11_plainly_86 ?_
        obtain rfl := Option.some.inj h
        exact hret _ _ _ _ hw rfl dX11_plainly_87
      · rw [if_neg t12] at h
        refine lv_aload_n hx hb dX11_plainly_62 rfl (lv_at hl 3 rfl) ?_
        refine z_getc hx hb hts zin_X11 hown hK hw zF1_0_6 (hts _ zw_844) dX11_plainly_63 ?_
        refine lv_iload hx hb dX11_plainly_66 (lv_at hl 2 rfl) ?_
        refine lv_iload hx hb dX11_plainly_68 (lv_at hl 7 rfl) ?_
        refine lv_iadd hx hb dX11_plainly_70 ?_
        obtain ⟨v15, e16, h⟩ := zbind h
        refine z_iald hx hb hK hw e16 dX11_plainly_71 ?_
        refine lv_iconst (v := 2) hx hb dX11_plainly_72 (by decide) ?_
        refine lv_idiv hx hb dX11_plainly_73 (by decide) ?_
        refine lv_goto (tgt := 87) hx hb dX11_plainly_74 (by decide) ?_
        obtain rfl := Option.some.inj h
        exact hret _ _ _ _ hw rfl dX11_plainly_87
  · rw [if_pos t3] at h
    refine lv_iload_n hx hb dX11_plainly_31 rfl (lv_at hl 3 rfl) ?_
    refine lv_iconst (v := 2) hx hb dX11_plainly_32 (by decide) ?_
    refine lv_icmp_ne (tgt := 40) hx hb dX11_plainly_33 (by decide) (fun t17 => ?_) (fun t17 => ?_)
    · rw [if_neg t17] at h
      refine lv_iload hx hb dX11_plainly_40 (lv_at hl 0 rfl) ?_
      obtain rfl := Option.some.inj h
      exact hret _ _ _ _ hw rfl dX11_plainly_42
    · rw [if_pos t17] at h
      refine lv_iconst (v := 0) hx hb dX11_plainly_36 (by decide) ?_
      refine lv_goto (tgt := 42) hx hb dX11_plainly_37 (by decide) ?_
      obtain rfl := Option.some.inj h
      exact hret _ _ _ _ hw rfl dX11_plainly_42
theorem hX11_carried : yX11_carried.cls = RX11 ∧ yX11_carried.cls ≠ "java/lang/invoke/MethodHandle" ∧ yX11_carried.cls ≠ "java/lang/invoke/VarHandle" ∧ (parseMethodDescriptor yX11_carried.desc).map (fun d => d.parameters.length) = some 4 := by decide +kernel
set_option maxHeartbeats 4000000 in
set_option maxRecDepth 100000 in
theorem kX11_carried (l : Launch) (D : va_G) (g : zG) (ad : Nat → Nat) (σ : zSt) (x1 : Int32) (x2 : Int32) (x3 : Int32) (x4 : Int32) (o : Int32) (h : fX11_carried σ x1 x2 x3 x4 = some o) : zMi l D g 1 ad yX11_carried (Cond.code yX11_carried cX11_carried 6 (some .int) :: zws) (zRm 3) [.ref (ad 0), .int x1, .int x2, .int x3, .int x4] σ o σ := by
  refine z_enter_i (by decide) (Nat.le_of_ble_eq_true rfl) ?_
  intro p e s m below meth c A ls Q C hw hl hret
  obtain ⟨hx, hb, hml, hown, hts, hK, hA⟩ := id C
  have hown : s.vm.findClass RX11 = some m.cls := hown
  have C : zCx p c cX11_carried s _ RX11 m 6 A s.heap D g := C
  have hl : lv_has ls 6 [(0, .ref (ad 0)), (1, .int x1), (2, .int x2), (3, .int x3), (4, .int x4)] := hl
  unfold fX11_carried at h
  refine lv_aload_n hx hb dX11_carried_0 rfl (lv_at hl 0 rfl) ?_
  refine lv_aload_n hx hb dX11_carried_1 rfl (lv_at hl 0 rfl) ?_
  refine z_getc hx hb hts zin_X11 hown hK hw zF1_0_12 (hts _ zw_850) dX11_carried_2 ?_
  refine lv_iload_n hx hb dX11_carried_5 rfl (lv_at hl 1 rfl) ?_
  obtain ⟨v1, e2, h⟩ := zbind h
  refine z_iald hx hb hK hw e2 dX11_carried_6 ?_
  refine lv_iload_n hx hb dX11_carried_7 rfl (lv_at hl 2 rfl) ?_
  refine lv_iload_n hx hb dX11_carried_8 rfl (lv_at hl 3 rfl) ?_
  refine lv_iload hx hb dX11_carried_9 (lv_at hl 4 rfl) ?_
  obtain ⟨r3, e4, h⟩ := zbind h
  refine z_cVi (As := [.int v1, .int x2, .int x3, .int x4]) (rest := []) ⟨hx, hb, hml, hown, hts⟩ hK hw hA (kX11_plainly l D g ad σ v1 x2 x3 x4 r3 e4) (zcwV 4 hts zgoodIn zw_1017 zw_1019 zw_35 zw_64 zw_1020 rfl rfl hX11_plainly ⟨Nat.le_of_ble_eq_true rfl, Nat.le_of_ble_eq_true rfl⟩) zO1_0 rfl hl.1 rfl (Nat.le_of_ble_eq_true rfl) dX11_carried_11 ⟨Nat.zero_le _, Nat.zero_le _⟩ (fun H locs hw => ?_)
  refine lv_bipush (v := 12) hx hb dX11_carried_14 (by decide) ?_
  refine lv_aload_n hx hb dX11_carried_16 rfl (lv_at hl 0 rfl) ?_
  refine z_getc hx hb hts zin_X11 hown hK hw zF1_0_13 (hts _ zw_851) dX11_carried_17 ?_
  refine lv_iload_n hx hb dX11_carried_20 rfl (lv_at hl 1 rfl) ?_
  obtain ⟨v5, e6, h⟩ := zbind h
  refine z_iald hx hb hK hw e6 dX11_carried_21 ?_
  refine lv_isub hx hb dX11_carried_22 ?_
  refine lv_imul hx hb dX11_carried_23 ?_
  refine lv_istore (lv' := [(5, .int (r3 * ((12 : Int32) - v5))), (0, .ref (ad 0)), (1, .int x1), (2, .int x2), (3, .int x3), (4, .int x4)]) hx hb dX11_carried_24 hl (by decide) rfl (fun ls hl => ?_)
  refine lv_iload hx hb dX11_carried_26 (lv_at hl 5 rfl) ?_
  refine lv_aload_n hx hb dX11_carried_28 rfl (lv_at hl 1 rfl) ?_
  refine z_geti hx hb hts zin_X11 hown hK hw zF1_0_5 (hts _ zw_843) dX11_carried_29 ?_
  refine lv_icmp_ne (tgt := 50) hx hb dX11_carried_32 (by decide) (fun t7 => ?_) (fun t7 => ?_)
  · rw [if_neg t7] at h
    refine lv_iload hx hb dX11_carried_50 (lv_at hl 0 rfl) ?_
    obtain rfl := Option.some.inj h
    exact hret _ _ _ _ hw rfl dX11_carried_52
  · rw [if_pos t7] at h
    refine lv_iload hx hb dX11_carried_35 (lv_at hl 0 rfl) ?_
    refine lv_bipush (v := 12) hx hb dX11_carried_37 (by decide) ?_
    refine lv_aload_n hx hb dX11_carried_39 rfl (lv_at hl 1 rfl) ?_
    refine z_getc hx hb hts zin_X11 hown hK hw zF1_0_13 (hts _ zw_851) dX11_carried_40 ?_
    refine lv_iload_n hx hb dX11_carried_43 rfl (lv_at hl 2 rfl) ?_
    obtain ⟨v8, e9, h⟩ := zbind h
    refine z_iald hx hb hK hw e9 dX11_carried_44 ?_
    refine lv_imul hx hb dX11_carried_45 ?_
    refine lv_iadd hx hb dX11_carried_46 ?_
    refine lv_goto (tgt := 52) hx hb dX11_carried_47 (by decide) ?_
    obtain rfl := Option.some.inj h
    exact hret _ _ _ _ hw rfl dX11_carried_52
theorem hX11_carries : yX11_carries.cls = RX11 ∧ yX11_carries.cls ≠ "java/lang/invoke/MethodHandle" ∧ yX11_carries.cls ≠ "java/lang/invoke/VarHandle" ∧ (parseMethodDescriptor yX11_carries.desc).map (fun d => d.parameters.length) = some 4 := by decide +kernel
set_option maxHeartbeats 4000000 in
set_option maxRecDepth 100000 in
theorem kX11_carries (l : Launch) (D : va_G) (g : zG) (ad : Nat → Nat) (σ : zSt) (x1 : Int32) (x2 : Int32) (x3 : Int32) (x4 : Int32) (o : Int32) (h : fX11_carries σ x1 x2 x3 x4 = some o) : zMi l D g 1 ad yX11_carries (Cond.code yX11_carries cX11_carries 5 (some .int) :: zws) (zRm 4) [.ref (ad 0), .int x1, .int x2, .int x3, .int x4] σ o σ := by
  refine z_enter_i (by decide) (Nat.le_of_ble_eq_true rfl) ?_
  intro p e s m below meth c A ls Q C hw hl hret
  obtain ⟨hx, hb, hml, hown, hts, hK, hA⟩ := id C
  have hown : s.vm.findClass RX11 = some m.cls := hown
  have C : zCx p c cX11_carries s _ RX11 m 5 A s.heap D g := C
  have hl : lv_has ls 5 [(0, .ref (ad 0)), (1, .int x1), (2, .int x2), (3, .int x3), (4, .int x4)] := hl
  unfold fX11_carries at h
  refine lv_aload_n hx hb dX11_carries_0 rfl (lv_at hl 0 rfl) ?_
  refine lv_iload_n hx hb dX11_carries_1 rfl (lv_at hl 1 rfl) ?_
  refine z_cVi (As := [.int x1]) (rest := []) ⟨hx, hb, hml, hown, hts⟩ hK hw hA (kX11_isInterpreter l D g ad σ x1 _ rfl) (zcwV 1 hts zgoodIn zw_1001 zw_1003 zw_33 zw_64 zw_1004 rfl rfl hX11_isInterpreter ⟨Nat.le_of_ble_eq_true rfl, Nat.le_of_ble_eq_true rfl⟩) zO1_0 rfl hl.1 rfl (Nat.le_of_ble_eq_true rfl) dX11_carries_2 ⟨Nat.zero_le _, Nat.zero_le _⟩ (fun H locs hw => ?_)
  refine lv_if_eq (tgt := 25) hx hb dX11_carries_5 (by decide) (fun t1 => ?_) (fun t1 => ?_)
  · rw [if_pos t1] at h
    refine lv_iconst (v := (-1)) hx hb dX11_carries_25 (by decide) ?_
    obtain rfl := Option.some.inj h
    exact hret _ _ _ _ hw rfl dX11_carries_26
  · rw [if_neg t1] at h
    refine lv_aload_n hx hb dX11_carries_8 rfl (lv_at hl 0 rfl) ?_
    refine lv_iload_n hx hb dX11_carries_9 rfl (lv_at hl 3 rfl) ?_
    refine z_cVi (As := [.int x3]) (rest := []) ⟨hx, hb, hml, hown, hts⟩ hK hw hA (kX11_isWord l D g ad σ x3 _ rfl) (zcwV 1 hts zgoodIn zw_964 zw_966 zw_30 zw_64 zw_967 rfl rfl hX11_isWord ⟨Nat.le_of_ble_eq_true rfl, Nat.le_of_ble_eq_true rfl⟩) zO1_0 rfl hl.1 rfl (Nat.le_of_ble_eq_true rfl) dX11_carries_10 ⟨Nat.zero_le _, Nat.zero_le _⟩ (fun H locs hw => ?_)
    refine lv_if_eq (tgt := 25) hx hb dX11_carries_13 (by decide) (fun t2 => ?_) (fun t2 => ?_)
    · rw [if_pos t2] at h
      refine lv_iconst (v := (-1)) hx hb dX11_carries_25 (by decide) ?_
      obtain rfl := Option.some.inj h
      exact hret _ _ _ _ hw rfl dX11_carries_26
    · rw [if_neg t2] at h
      refine lv_aload_n hx hb dX11_carries_16 rfl (lv_at hl 0 rfl) ?_
      refine lv_iload hx hb dX11_carries_17 (lv_at hl 4 rfl) ?_
      refine z_cVi (As := [.int x4]) (rest := []) ⟨hx, hb, hml, hown, hts⟩ hK hw hA (kX11_isEnd l D g ad σ x4 _ rfl) (zcwV 1 hts zgoodIn zw_968 zw_970 zw_31 zw_64 zw_971 rfl rfl hX11_isEnd ⟨Nat.le_of_ble_eq_true rfl, Nat.le_of_ble_eq_true rfl⟩) zO1_0 rfl hl.1 rfl (Nat.le_of_ble_eq_true rfl) dX11_carries_19 ⟨Nat.zero_le _, Nat.zero_le _⟩ (fun H locs hw => ?_)
      refine lv_if_ne (tgt := 27) hx hb dX11_carries_22 (by decide) (fun t3 => ?_) (fun t3 => ?_)
      · rw [if_neg t3] at h
        refine lv_iload_n hx hb dX11_carries_27 rfl (lv_at hl 2 rfl) ?_
        refine z_cSi (As := [.int x2]) (rest := []) ⟨hx, hb, hml, hown, hts⟩ hK hw hA (kX11_isWay l D g ad σ x2 _ rfl) (zcwS 1 hts zgoodIn zw_972 zw_973 zw_64 zw_974 rfl rfl hX11_isWay ⟨Nat.le_of_ble_eq_true rfl, Nat.le_of_ble_eq_true rfl⟩) rfl hl.1 rfl (Nat.le_of_ble_eq_true rfl) dX11_carries_28 ⟨Nat.zero_le _, Nat.zero_le _⟩ (fun H locs hw => ?_)
        refine lv_if_eq (tgt := 46) hx hb dX11_carries_31 (by decide) (fun t4 => ?_) (fun t4 => ?_)
        · rw [if_pos t4] at h
          refine lv_bipush (v := (-2)) hx hb dX11_carries_46 (by decide) ?_
          obtain rfl := Option.some.inj h
          exact hret _ _ _ _ hw rfl dX11_carries_48
        · rw [if_neg t4] at h
          refine lv_aload_n hx hb dX11_carries_34 rfl (lv_at hl 0 rfl) ?_
          refine lv_iload_n hx hb dX11_carries_35 rfl (lv_at hl 1 rfl) ?_
          refine lv_iload_n hx hb dX11_carries_36 rfl (lv_at hl 2 rfl) ?_
          refine lv_iload_n hx hb dX11_carries_37 rfl (lv_at hl 3 rfl) ?_
          refine lv_iload hx hb dX11_carries_38 (lv_at hl 4 rfl) ?_
          obtain ⟨r5, e6, h⟩ := zbind h
          refine z_cVi (As := [.int x1, .int x2, .int x3, .int x4]) (rest := []) ⟨hx, hb, hml, hown, hts⟩ hK hw hA (kX11_carried l D g ad σ x1 x2 x3 x4 r5 e6) (zcwV 4 hts zgoodIn zw_1013 zw_1015 zw_34 zw_64 zw_1016 rfl rfl hX11_carried ⟨Nat.le_of_ble_eq_true rfl, Nat.le_of_ble_eq_true rfl⟩) zO1_0 rfl hl.1 rfl (Nat.le_of_ble_eq_true rfl) dX11_carries_40 ⟨Nat.zero_le _, Nat.zero_le _⟩ (fun H locs hw => ?_)
          refine lv_goto (tgt := 48) hx hb dX11_carries_43 (by decide) ?_
          obtain rfl := Option.some.inj h
          exact hret _ _ _ _ hw rfl dX11_carries_48
      · rw [if_pos t3] at h
        refine lv_iconst (v := (-1)) hx hb dX11_carries_25 (by decide) ?_
        obtain rfl := Option.some.inj h
        exact hret _ _ _ _ hw rfl dX11_carries_26
set_option maxHeartbeats 4000000 in
set_option maxRecDepth 100000 in
theorem wX11_returns_52 {p : Program} {l : Launch} {e : Env} {s : State} {m : MethodId} {args : Array Value} {below : List Frame} {meth : Method} {c : Code} {A : Nat → Prop} {H0 : Heap} {Q : State → Prop} {D : va_G} {g : zG} {ad : Nat → Nat} (C : zCx p c cX11_returns s args RX11 m 9 A H0 D g) (σ : zSt) (x1 : Int32) (x2 : Int32) (x3 : Int32) (x4 : Int32) (x5 : Int32) (x6 : Int32) (n : Nat) (a : (Int32 × Int32)) (b : (Int32 × Int32)) (h : zLp (fun a => bX11_returns_52 σ x1 x2 x3 x4 x5 x6 a.1 a.2) n a = some b) (hk : ∀ (H : Heap) (locs : List Loc) (ls : Array Slot), zH D g 1 ad A H0 σ H locs → lv_has ls 9 [(0, .ref (ad 0)), (1, .int x1), (2, .int x2), (3, .int x3), (4, .int x4), (5, .int x5), (6, .int x6), (7, .int b.1), (8, .int b.2)] → W p l e (zRm 4) s m args below meth c H locs 0 0 Q (F0 m 94 ls [])) : ∀ (H : Heap) (locs : List Loc) (ls : Array Slot), zH D g 1 ad A H0 σ H locs → lv_has ls 9 [(0, .ref (ad 0)), (1, .int x1), (2, .int x2), (3, .int x3), (4, .int x4), (5, .int x5), (6, .int x6), (7, .int a.1), (8, .int a.2)] → W p l e (zRm 4) s m args below meth c H locs 0 0 Q (F0 m 52 ls []) := by
  obtain ⟨hx, hb, hml, hown, hts, hK, hA⟩ := id C
  refine zLp_walk (P := fun (a : (Int32 × Int32)) => ∀ (H : Heap) (locs : List Loc) (ls : Array Slot), zH D g 1 ad A H0 σ H locs → lv_has ls 9 [(0, .ref (ad 0)), (1, .int x1), (2, .int x2), (3, .int x3), (4, .int x4), (5, .int x5), (6, .int x6), (7, .int a.1), (8, .int a.2)] → W p l e (zRm 4) s m args below meth c H locs 0 0 Q (F0 m 52 ls [])) (E := fun (b' : (Int32 × Int32)) => b' = b) ?_ n a b h rfl
  intro a r h hn he H locs ls hw hl
  obtain ⟨x7, x8⟩ := a
  have h : bX11_returns_52 σ x1 x2 x3 x4 x5 x6 x7 x8 = some r := h
  have hl : lv_has ls 9 [(0, .ref (ad 0)), (1, .int x1), (2, .int x2), (3, .int x3), (4, .int x4), (5, .int x5), (6, .int x6), (7, .int x7), (8, .int x8)] := hl
  have hw : zH D g 1 ad A H0 σ H locs := hw
  unfold bX11_returns_52 at h
  refine lv_iload hx hb dX11_returns_52 (lv_at hl 8 rfl) ?_
  refine lv_aload_n hx hb dX11_returns_54 rfl (lv_at hl 0 rfl) ?_
  refine z_geti hx hb hts zin_X11 hown hK hw zF1_0_5 (hts _ zw_843) dX11_returns_55 ?_
  refine lv_icmp_ge (tgt := 94) hx hb dX11_returns_58 (by decide) (fun t1 => ?_) (fun t1 => ?_)
  · rw [if_pos t1] at h
    obtain rfl := Option.some.inj h
    obtain rfl := he _ rfl
    exact hk _ _ _ hw (lv_sub hl [0, 1, 2, 3, 4, 5, 6, 7, 8] rfl)
  · rw [if_neg t1] at h
    refine lv_iload hx hb dX11_returns_61 (lv_at hl 7 rfl) ?_
    refine lv_aload_n hx hb dX11_returns_63 rfl (lv_at hl 0 rfl) ?_
    refine lv_iload_n hx hb dX11_returns_64 rfl (lv_at hl 1 rfl) ?_
    refine lv_iload_n hx hb dX11_returns_65 rfl (lv_at hl 2 rfl) ?_
    refine lv_iload_n hx hb dX11_returns_66 rfl (lv_at hl 3 rfl) ?_
    refine lv_iload hx hb dX11_returns_67 (lv_at hl 8 rfl) ?_
    obtain ⟨r2, e3, h⟩ := zbind h
    refine z_cVi (As := [.int x1, .int x2, .int x3, .int x8]) (rest := [.int x7]) ⟨hx, hb, hml, hown, hts⟩ hK hw hA (kX11_carried l D g ad σ x1 x2 x3 x8 r2 e3) (zcwV 4 hts zgoodIn zw_1013 zw_1015 zw_34 zw_64 zw_1016 rfl rfl hX11_carried ⟨Nat.le_of_ble_eq_true rfl, Nat.le_of_ble_eq_true rfl⟩) zO1_0 rfl hl.1 rfl (Nat.le_of_ble_eq_true rfl) dX11_returns_69 ⟨Nat.zero_le _, Nat.zero_le _⟩ (fun H locs hw => ?_)
    refine lv_aload_n hx hb dX11_returns_72 rfl (lv_at hl 0 rfl) ?_
    refine lv_iload_n hx hb dX11_returns_73 rfl (lv_at hl 1 rfl) ?_
    refine lv_iconst (v := 1) hx hb dX11_returns_74 (by decide) ?_
    refine lv_iload_n hx hb dX11_returns_75 rfl (lv_at hl 2 rfl) ?_
    refine lv_isub hx hb dX11_returns_76 ?_
    refine lv_iload hx hb dX11_returns_77 (lv_at hl 8 rfl) ?_
    refine lv_iload hx hb dX11_returns_79 (lv_at hl 6 rfl) ?_
    obtain ⟨r4, e5, h⟩ := zbind h
    refine z_cVi (As := [.int x1, .int ((1 : Int32) - x2), .int x8, .int x6]) (rest := [.int r2, .int x7]) ⟨hx, hb, hml, hown, hts⟩ hK hw hA (kX11_carried l D g ad σ x1 ((1 : Int32) - x2) x8 x6 r4 e5) (zcwV 4 hts zgoodIn zw_1013 zw_1015 zw_34 zw_64 zw_1016 rfl rfl hX11_carried ⟨Nat.le_of_ble_eq_true rfl, Nat.le_of_ble_eq_true rfl⟩) zO1_0 rfl hl.1 rfl (Nat.le_of_ble_eq_true rfl) dX11_returns_81 ⟨Nat.zero_le _, Nat.zero_le _⟩ (fun H locs hw => ?_)
    refine lv_imul hx hb dX11_returns_84 ?_
    refine lv_iadd hx hb dX11_returns_85 ?_
    refine lv_istore (lv' := [(7, .int (x7 + (r2 * r4))), (0, .ref (ad 0)), (1, .int x1), (2, .int x2), (3, .int x3), (4, .int x4), (5, .int x5), (6, .int x6), (8, .int x8)]) hx hb dX11_returns_86 hl (by decide) rfl (fun ls hl => ?_)
    refine lv_iinc (v := x8 + 1) (lv' := [(8, .int (x8 + 1)), (7, .int (x7 + (r2 * r4))), (0, .ref (ad 0)), (1, .int x1), (2, .int x2), (3, .int x3), (4, .int x4), (5, .int x5), (6, .int x6)]) hx hb dX11_returns_88 hl (k := 8) rfl rfl (by decide) rfl (fun ls hl => ?_)
    refine lv_goto (tgt := 52) hx hb dX11_returns_91 (by decide) ?_
    obtain rfl := Option.some.inj h
    exact hn _ rfl _ _ _ hw (lv_sub hl [2, 3, 4, 5, 6, 7, 8, 1, 0] rfl)
set_option maxHeartbeats 4000000 in
set_option maxRecDepth 100000 in
theorem wX11_returns_37 {p : Program} {l : Launch} {e : Env} {s : State} {m : MethodId} {args : Array Value} {below : List Frame} {meth : Method} {c : Code} {A : Nat → Prop} {H0 : Heap} {Q : State → Prop} {D : va_G} {g : zG} {ad : Nat → Nat} (C : zCx p c cX11_returns s args RX11 m 9 A H0 D g) (σ : zSt) (x1 : Int32) (x2 : Int32) (x3 : Int32) (n : Nat) (a : (Int32 × Int32 × Int32)) (b : (Int32 × Int32 × Int32)) (h : zLp (fun a => bX11_returns_37 σ x1 x2 x3 a.1 a.2.1 a.2.2) n a = some b) (hk : ∀ (H : Heap) (locs : List Loc) (ls : Array Slot), zH D g 1 ad A H0 σ H locs → lv_has ls 9 [(0, .ref (ad 0)), (1, .int x1), (2, .int x2), (3, .int x3), (4, .int b.1), (5, .int b.2.1), (6, .int b.2.2)] → W p l e (zRm 4) s m args below meth c H locs 0 0 Q (F0 m 115 ls [])) : ∀ (H : Heap) (locs : List Loc) (ls : Array Slot), zH D g 1 ad A H0 σ H locs → lv_has ls 9 [(0, .ref (ad 0)), (1, .int x1), (2, .int x2), (3, .int x3), (4, .int a.1), (5, .int a.2.1), (6, .int a.2.2)] → W p l e (zRm 4) s m args below meth c H locs 0 0 Q (F0 m 37 ls []) := by
  obtain ⟨hx, hb, hml, hown, hts, hK, hA⟩ := id C
  refine zLp_walk (P := fun (a : (Int32 × Int32 × Int32)) => ∀ (H : Heap) (locs : List Loc) (ls : Array Slot), zH D g 1 ad A H0 σ H locs → lv_has ls 9 [(0, .ref (ad 0)), (1, .int x1), (2, .int x2), (3, .int x3), (4, .int a.1), (5, .int a.2.1), (6, .int a.2.2)] → W p l e (zRm 4) s m args below meth c H locs 0 0 Q (F0 m 37 ls [])) (E := fun (b' : (Int32 × Int32 × Int32)) => b' = b) ?_ n a b h rfl
  intro a r h hn he H locs ls hw hl
  obtain ⟨x4, x5, x6⟩ := a
  have h : bX11_returns_37 σ x1 x2 x3 x4 x5 x6 = some r := h
  have hl : lv_has ls 9 [(0, .ref (ad 0)), (1, .int x1), (2, .int x2), (3, .int x3), (4, .int x4), (5, .int x5), (6, .int x6)] := hl
  have hw : zH D g 1 ad A H0 σ H locs := hw
  unfold bX11_returns_37 at h
  refine lv_iload hx hb dX11_returns_37 (lv_at hl 6 rfl) ?_
  refine lv_aload_n hx hb dX11_returns_39 rfl (lv_at hl 0 rfl) ?_
  refine z_geti hx hb hts zin_X11 hown hK hw zF1_0_5 (hts _ zw_843) dX11_returns_40 ?_
  refine lv_icmp_ge (tgt := 115) hx hb dX11_returns_43 (by decide) (fun t1 => ?_) (fun t1 => ?_)
  · rw [if_pos t1] at h
    obtain rfl := Option.some.inj h
    obtain rfl := he _ rfl
    exact hk _ _ _ hw (lv_sub hl [0, 1, 2, 3, 4, 5, 6] rfl)
  · rw [if_neg t1] at h
    refine lv_iconst (v := 0) hx hb dX11_returns_46 (by decide) ?_
    refine lv_istore (lv' := [(7, .int (0 : Int32)), (0, .ref (ad 0)), (1, .int x1), (2, .int x2), (3, .int x3), (4, .int x4), (5, .int x5), (6, .int x6)]) hx hb dX11_returns_47 hl (by decide) rfl (fun ls hl => ?_)
    refine lv_iconst (v := 0) hx hb dX11_returns_49 (by decide) ?_
    refine lv_istore (lv' := [(8, .int (0 : Int32)), (7, .int (0 : Int32)), (0, .ref (ad 0)), (1, .int x1), (2, .int x2), (3, .int x3), (4, .int x4), (5, .int x5), (6, .int x6)]) hx hb dX11_returns_50 hl (by decide) rfl (fun ls hl => ?_)
    obtain ⟨b2, e3, h⟩ := zbind h
    refine wX11_returns_52 C σ x1 x2 x3 x4 x5 x6 zFU ((0 : Int32), (0 : Int32)) b2 e3 (fun H locs ls hw hl => ?_) _ _ _ hw (lv_sub hl [2, 3, 4, 5, 6, 7, 8, 1, 0] rfl)
    have hl : lv_has ls 9 [(0, .ref (ad 0)), (1, .int x1), (2, .int x2), (3, .int x3), (4, .int x4), (5, .int x5), (6, .int x6), (7, .int b2.1), (8, .int b2.2)] := hl
    refine lv_iload hx hb dX11_returns_94 (lv_at hl 7 rfl) ?_
    refine lv_iload hx hb dX11_returns_96 (lv_at hl 5 rfl) ?_
    refine lv_icmp_le (tgt := 109) hx hb dX11_returns_98 (by decide) (fun t4 => ?_) (fun t4 => ?_)
    · rw [if_pos t4] at h
      refine lv_iinc (v := x6 + 1) (lv' := [(6, .int (x6 + 1)), (0, .ref (ad 0)), (1, .int x1), (2, .int x2), (3, .int x3), (4, .int x4), (5, .int x5), (7, .int b2.1), (8, .int b2.2)]) hx hb dX11_returns_109 hl (k := 6) rfl rfl (by decide) rfl (fun ls hl => ?_)
      refine lv_goto (tgt := 37) hx hb dX11_returns_112 (by decide) ?_
      obtain rfl := Option.some.inj h
      exact hn _ rfl _ _ _ hw (lv_sub hl [1, 2, 3, 4, 5, 6, 0] rfl)
    · rw [if_neg t4] at h
      refine lv_iload hx hb dX11_returns_101 (lv_at hl 7 rfl) ?_
      refine lv_istore (lv' := [(5, .int b2.1), (0, .ref (ad 0)), (1, .int x1), (2, .int x2), (3, .int x3), (4, .int x4), (6, .int x6), (7, .int b2.1), (8, .int b2.2)]) hx hb dX11_returns_103 hl (by decide) rfl (fun ls hl => ?_)
      refine lv_iload hx hb dX11_returns_105 (lv_at hl 6 rfl) ?_
      refine lv_istore (lv' := [(4, .int x6), (5, .int b2.1), (0, .ref (ad 0)), (1, .int x1), (2, .int x2), (3, .int x3), (6, .int x6), (7, .int b2.1), (8, .int b2.2)]) hx hb dX11_returns_107 hl (by decide) rfl (fun ls hl => ?_)
      refine lv_iinc (v := x6 + 1) (lv' := [(6, .int (x6 + 1)), (4, .int x6), (5, .int b2.1), (0, .ref (ad 0)), (1, .int x1), (2, .int x2), (3, .int x3), (7, .int b2.1), (8, .int b2.2)]) hx hb dX11_returns_109 hl (k := 6) rfl rfl (by decide) rfl (fun ls hl => ?_)
      refine lv_goto (tgt := 37) hx hb dX11_returns_112 (by decide) ?_
      obtain rfl := Option.some.inj h
      exact hn _ rfl _ _ _ hw (lv_sub hl [3, 4, 5, 6, 1, 2, 0] rfl)
theorem hX11_returns : yX11_returns.cls = RX11 ∧ yX11_returns.cls ≠ "java/lang/invoke/MethodHandle" ∧ yX11_returns.cls ≠ "java/lang/invoke/VarHandle" ∧ (parseMethodDescriptor yX11_returns.desc).map (fun d => d.parameters.length) = some 3 := by decide +kernel
set_option maxHeartbeats 4000000 in
set_option maxRecDepth 100000 in
theorem kX11_returns (l : Launch) (D : va_G) (g : zG) (ad : Nat → Nat) (σ : zSt) (x1 : Int32) (x2 : Int32) (x3 : Int32) (o : Int32) (h : fX11_returns σ x1 x2 x3 = some o) : zMi l D g 1 ad yX11_returns (Cond.code yX11_returns cX11_returns 9 (some .int) :: zws) (zRm 4) [.ref (ad 0), .int x1, .int x2, .int x3] σ o σ := by
  refine z_enter_i (by decide) (Nat.le_of_ble_eq_true rfl) ?_
  intro p e s m below meth c A ls Q C hw hl hret
  obtain ⟨hx, hb, hml, hown, hts, hK, hA⟩ := id C
  have hown : s.vm.findClass RX11 = some m.cls := hown
  have C : zCx p c cX11_returns s _ RX11 m 9 A s.heap D g := C
  have hl : lv_has ls 9 [(0, .ref (ad 0)), (1, .int x1), (2, .int x2), (3, .int x3)] := hl
  unfold fX11_returns at h
  refine lv_aload_n hx hb dX11_returns_0 rfl (lv_at hl 0 rfl) ?_
  refine lv_iload_n hx hb dX11_returns_1 rfl (lv_at hl 1 rfl) ?_
  refine z_cVi (As := [.int x1]) (rest := []) ⟨hx, hb, hml, hown, hts⟩ hK hw hA (kX11_isInterpreter l D g ad σ x1 _ rfl) (zcwV 1 hts zgoodIn zw_1001 zw_1003 zw_33 zw_64 zw_1004 rfl rfl hX11_isInterpreter ⟨Nat.le_of_ble_eq_true rfl, Nat.le_of_ble_eq_true rfl⟩) zO1_0 rfl hl.1 rfl (Nat.le_of_ble_eq_true rfl) dX11_returns_2 ⟨Nat.zero_le _, Nat.zero_le _⟩ (fun H locs hw => ?_)
  refine lv_if_eq (tgt := 16) hx hb dX11_returns_5 (by decide) (fun t1 => ?_) (fun t1 => ?_)
  · rw [if_pos t1] at h
    refine lv_iconst (v := (-1)) hx hb dX11_returns_16 (by decide) ?_
    obtain rfl := Option.some.inj h
    exact hret _ _ _ _ hw rfl dX11_returns_17
  · rw [if_neg t1] at h
    refine lv_aload_n hx hb dX11_returns_8 rfl (lv_at hl 0 rfl) ?_
    refine lv_iload_n hx hb dX11_returns_9 rfl (lv_at hl 3 rfl) ?_
    refine z_cVi (As := [.int x3]) (rest := []) ⟨hx, hb, hml, hown, hts⟩ hK hw hA (kX11_isWord l D g ad σ x3 _ rfl) (zcwV 1 hts zgoodIn zw_964 zw_966 zw_30 zw_64 zw_967 rfl rfl hX11_isWord ⟨Nat.le_of_ble_eq_true rfl, Nat.le_of_ble_eq_true rfl⟩) zO1_0 rfl hl.1 rfl (Nat.le_of_ble_eq_true rfl) dX11_returns_10 ⟨Nat.zero_le _, Nat.zero_le _⟩ (fun H locs hw => ?_)
    refine lv_if_ne (tgt := 18) hx hb dX11_returns_13 (by decide) (fun t2 => ?_) (fun t2 => ?_)
    · rw [if_neg t2] at h
      refine lv_iload_n hx hb dX11_returns_18 rfl (lv_at hl 2 rfl) ?_
      refine z_cSi (As := [.int x2]) (rest := []) ⟨hx, hb, hml, hown, hts⟩ hK hw hA (kX11_isWay l D g ad σ x2 _ rfl) (zcwS 1 hts zgoodIn zw_972 zw_973 zw_64 zw_974 rfl rfl hX11_isWay ⟨Nat.le_of_ble_eq_true rfl, Nat.le_of_ble_eq_true rfl⟩) rfl hl.1 rfl (Nat.le_of_ble_eq_true rfl) dX11_returns_19 ⟨Nat.zero_le _, Nat.zero_le _⟩ (fun H locs hw => ?_)
      refine lv_if_ne (tgt := 28) hx hb dX11_returns_22 (by decide) (fun t3 => ?_) (fun t3 => ?_)
      · rw [if_neg t3] at h
        refine lv_iconst (v := 0) hx hb dX11_returns_28 (by decide) ?_
        refine lv_istore (lv' := [(4, .int (0 : Int32)), (0, .ref (ad 0)), (1, .int x1), (2, .int x2), (3, .int x3)]) hx hb dX11_returns_29 hl (by decide) rfl (fun ls hl => ?_)
        refine lv_iconst (v := (-1)) hx hb dX11_returns_31 (by decide) ?_
        refine lv_istore (lv' := [(5, .int (-1 : Int32)), (4, .int (0 : Int32)), (0, .ref (ad 0)), (1, .int x1), (2, .int x2), (3, .int x3)]) hx hb dX11_returns_32 hl (by decide) rfl (fun ls hl => ?_)
        refine lv_iconst (v := 0) hx hb dX11_returns_34 (by decide) ?_
        refine lv_istore (lv' := [(6, .int (0 : Int32)), (5, .int (-1 : Int32)), (4, .int (0 : Int32)), (0, .ref (ad 0)), (1, .int x1), (2, .int x2), (3, .int x3)]) hx hb dX11_returns_35 hl (by decide) rfl (fun ls hl => ?_)
        obtain ⟨b4, e5, h⟩ := zbind h
        refine wX11_returns_37 C σ x1 x2 x3 zFU ((0 : Int32), (-1 : Int32), (0 : Int32)) b4 e5 (fun H locs ls hw hl => ?_) _ _ _ hw (lv_sub hl [3, 4, 5, 6, 2, 1, 0] rfl)
        have hl : lv_has ls 9 [(0, .ref (ad 0)), (1, .int x1), (2, .int x2), (3, .int x3), (4, .int b4.1), (5, .int b4.2.1), (6, .int b4.2.2)] := hl
        refine lv_iload hx hb dX11_returns_115 (lv_at hl 4 rfl) ?_
        obtain rfl := Option.some.inj h
        exact hret _ _ _ _ hw rfl dX11_returns_117
      · rw [if_pos t3] at h
        refine lv_bipush (v := (-2)) hx hb dX11_returns_25 (by decide) ?_
        obtain rfl := Option.some.inj h
        exact hret _ _ _ _ hw rfl dX11_returns_27
    · rw [if_pos t2] at h
      refine lv_iconst (v := (-1)) hx hb dX11_returns_16 (by decide) ?_
      obtain rfl := Option.some.inj h
      exact hret _ _ _ _ hw rfl dX11_returns_17
