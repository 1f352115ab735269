/-! walks: X0_isEachOnce, X0_work, J7_fill_d0a16, X1_begin, X8_meaning, X8_carry, X1_hand, X1_timesAs, X1_likeliest, X2_has, X2_hasAll, X2_isFull, X2_hire, X2_mark, X2_toldByKin, X2_toldByTrained, X2_toldBySworn, X2_told, X2_paid, X3_through, X3_passing -/
set_option maxHeartbeats 4000000 in
set_option maxRecDepth 100000 in
theorem wX0_isEachOnce_5 {p : Program} {l : Launch} {e : Env} {s : State} {m : MethodId} {args : Array Value} {below : List Frame} {meth : Method} {c : Code} {A : Nat → Prop} {H0 : Heap} {Q : State → Prop} {D : va_G} {g : zG} {ad : Nat → Nat} (C : zCx p c cX0_isEachOnce s args RX0 m 5 A H0 D g) (σ : zSt) (x0 : Nat) (x1 : Int32) (x2 : Int32) (n : Nat) (a : (Int32 × Int32)) (b : ((Int32 × Int32) ⊕ (Int32))) (h : zLp (fun a => bX0_isEachOnce_5 σ x0 x1 x2 a.1 a.2) n a = some b) (hk1 : ∀ a, b = .inl a → ∀ (H : Heap) (locs : List Loc) (ls : Array Slot), zH D g 0 ad A H0 σ H locs → lv_has ls 5 [(0, .ref (ad x0)), (1, .int x1), (2, .int x2), (3, .int a.1), (4, .int a.2)] → W p l e (zRm 0) s m args below meth c H locs 0 0 Q (F0 m 57 ls [])) (hk2 : ∀ r, b = .inr r → ∀ (H : Heap) (locs : List Loc) (pc : Nat) (ls : Array Slot), zH D g 0 ad A H0 σ H locs → narrow .boolean (.int r) = .int r → decode cX0_isEachOnce pc = .ok (.ireturn, 1) → W p l e (zRm 0) s m args below meth c H locs 0 0 Q (F0 m pc ls [.int r])) : ∀ (H : Heap) (locs : List Loc) (ls : Array Slot), zH D g 0 ad A H0 σ H locs → lv_has ls 5 [(0, .ref (ad x0)), (1, .int x1), (2, .int x2), (3, .int a.1), (4, .int a.2)] → W p l e (zRm 0) s m args below meth c H locs 0 0 Q (F0 m 5 ls []) := by
  obtain ⟨hx, hb, hml, hown, hts, hK, hA⟩ := id C
  refine zLp_walk (P := fun (a : (Int32 × Int32)) => ∀ (H : Heap) (locs : List Loc) (ls : Array Slot), zH D g 0 ad A H0 σ H locs → lv_has ls 5 [(0, .ref (ad x0)), (1, .int x1), (2, .int x2), (3, .int a.1), (4, .int a.2)] → W p l e (zRm 0) s m args below meth c H locs 0 0 Q (F0 m 5 ls [])) (E := fun (b' : ((Int32 × Int32) ⊕ (Int32))) => b' = b) ?_ n a b h rfl
  intro a r h hn he H locs ls hw hl
  obtain ⟨x3, x4⟩ := a
  have h : bX0_isEachOnce_5 σ x0 x1 x2 x3 x4 = some r := h
  have hl : lv_has ls 5 [(0, .ref (ad x0)), (1, .int x1), (2, .int x2), (3, .int x3), (4, .int x4)] := hl
  have hw : zH D g 0 ad A H0 σ H locs := hw
  unfold bX0_isEachOnce_5 at h
  refine lv_iload hx hb dX0_isEachOnce_5 (lv_at hl 4 rfl) ?_
  refine lv_iload_n hx hb dX0_isEachOnce_7 rfl (lv_at hl 1 rfl) ?_
  refine lv_iload_n hx hb dX0_isEachOnce_8 rfl (lv_at hl 2 rfl) ?_
  refine lv_iadd hx hb dX0_isEachOnce_9 ?_
  refine lv_icmp_ge (tgt := 57) hx hb dX0_isEachOnce_10 (by decide) (fun t1 => ?_) (fun t1 => ?_)
  · rw [if_pos t1] at h
    obtain rfl := Option.some.inj h
    obtain rfl := he _ rfl
    exact hk1 _ rfl _ _ _ hw (lv_sub hl [0, 1, 2, 3, 4] rfl)
  · rw [if_neg t1] at h
    refine lv_aload_n hx hb dX0_isEachOnce_13 rfl (lv_at hl 0 rfl) ?_
    refine lv_iload hx hb dX0_isEachOnce_14 (lv_at hl 4 rfl) ?_
    obtain ⟨v2, e3, h⟩ := zbind h
    refine z_iald hx hb hK hw e3 dX0_isEachOnce_16 ?_
    refine lv_if_lt (tgt := 40) hx hb dX0_isEachOnce_17 (by decide) (fun t4 => ?_) (fun t4 => ?_)
    · rw [if_pos t4] at h
      refine lv_iconst (v := 0) hx hb dX0_isEachOnce_40 (by decide) ?_
      obtain rfl := Option.some.inj h
      obtain rfl := he _ rfl
      exact hk2 _ rfl _ _ _ _ hw zb0 dX0_isEachOnce_41
    · rw [if_neg t4] at h
      refine lv_aload_n hx hb dX0_isEachOnce_20 rfl (lv_at hl 0 rfl) ?_
      refine lv_iload hx hb dX0_isEachOnce_21 (lv_at hl 4 rfl) ?_
      obtain ⟨v5, e6, h⟩ := zbind h
      refine z_iald hx hb hK hw e6 dX0_isEachOnce_23 ?_
      refine lv_iload_n hx hb dX0_isEachOnce_24 rfl (lv_at hl 2 rfl) ?_
      refine lv_icmp_ge (tgt := 40) hx hb dX0_isEachOnce_25 (by decide) (fun t7 => ?_) (fun t7 => ?_)
      · rw [if_pos t7] at h
        refine lv_iconst (v := 0) hx hb dX0_isEachOnce_40 (by decide) ?_
        obtain rfl := Option.some.inj h
        obtain rfl := he _ rfl
        exact hk2 _ rfl _ _ _ _ hw zb0 dX0_isEachOnce_41
      · rw [if_neg t7] at h
        refine lv_iload_n hx hb dX0_isEachOnce_28 rfl (lv_at hl 3 rfl) ?_
        refine lv_aload_n hx hb dX0_isEachOnce_29 rfl (lv_at hl 0 rfl) ?_
        refine lv_iload hx hb dX0_isEachOnce_30 (lv_at hl 4 rfl) ?_
        obtain ⟨v8, e9, h⟩ := zbind h
        refine z_iald hx hb hK hw e9 dX0_isEachOnce_32 ?_
        refine lv_ishr hx hb dX0_isEachOnce_33 ?_
        refine lv_iconst (v := 1) hx hb dX0_isEachOnce_34 (by decide) ?_
        refine lv_iand hx hb dX0_isEachOnce_35 ?_
        refine lv_iconst (v := 1) hx hb dX0_isEachOnce_36 (by decide) ?_
        refine lv_icmp_ne (tgt := 42) hx hb dX0_isEachOnce_37 (by decide) (fun t10 => ?_) (fun t10 => ?_)
        · rw [if_neg t10] at h
          refine lv_iload_n hx hb dX0_isEachOnce_42 rfl (lv_at hl 3 rfl) ?_
          refine lv_iconst (v := 1) hx hb dX0_isEachOnce_43 (by decide) ?_
          refine lv_aload_n hx hb dX0_isEachOnce_44 rfl (lv_at hl 0 rfl) ?_
          refine lv_iload hx hb dX0_isEachOnce_45 (lv_at hl 4 rfl) ?_
          obtain ⟨v11, e12, h⟩ := zbind h
          refine z_iald hx hb hK hw e12 dX0_isEachOnce_47 ?_
          refine lv_ishl hx hb dX0_isEachOnce_48 ?_
          refine lv_ior hx hb dX0_isEachOnce_49 ?_
          refine lv_istore_n (lv' := [(3, .int (x3 ||| ((1 : Int32) <<< (v11 &&& 31)))), (0, .ref (ad x0)), (1, .int x1), (2, .int x2), (4, .int x4)]) hx hb dX0_isEachOnce_50 rfl hl (by decide) rfl (fun ls hl => ?_)
          refine lv_iinc (v := x4 + 1) (lv' := [(4, .int (x4 + 1)), (3, .int (x3 ||| ((1 : Int32) <<< (v11 &&& 31)))), (0, .ref (ad x0)), (1, .int x1), (2, .int x2)]) hx hb dX0_isEachOnce_51 hl (k := 4) rfl rfl (by decide) rfl (fun ls hl => ?_)
          refine lv_goto (tgt := 5) hx hb dX0_isEachOnce_54 (by decide) ?_
          obtain rfl := Option.some.inj h
          exact hn _ rfl _ _ _ hw (lv_sub hl [2, 3, 4, 1, 0] rfl)
        · rw [if_pos t10] at h
          refine lv_iconst (v := 0) hx hb dX0_isEachOnce_40 (by decide) ?_
          obtain rfl := Option.some.inj h
          obtain rfl := he _ rfl
          exact hk2 _ rfl _ _ _ _ hw zb0 dX0_isEachOnce_41
theorem hX0_isEachOnce : yX0_isEachOnce.cls ≠ "java/lang/invoke/MethodHandle" ∧ yX0_isEachOnce.cls ≠ "java/lang/invoke/VarHandle" ∧ (parseMethodDescriptor yX0_isEachOnce.desc).map (fun d => d.parameters.length) = some 3 := by decide +kernel
set_option maxHeartbeats 4000000 in
set_option maxRecDepth 100000 in
theorem kX0_isEachOnce (l : Launch) (D : va_G) (g : zG) (ad : Nat → Nat) (σ : zSt) (x0 : Nat) (x1 : Int32) (x2 : Int32) (o : Int32) (h : fX0_isEachOnce σ x0 x1 x2 = some o) : zMi l D g 0 ad yX0_isEachOnce (Cond.code yX0_isEachOnce cX0_isEachOnce 5 (some .boolean) :: zws) (zRm 0) [.ref (ad x0), .int x1, .int x2] σ o σ := by
  refine z_enter_i (by decide) (Nat.le_of_ble_eq_true rfl) ?_
  intro p e s m below meth c A ls Q C hw hl hret
  obtain ⟨hx, hb, hml, hown, hts, hK, hA⟩ := id C
  have hown : s.vm.findClass RX0 = some m.cls := hown
  have C : zCx p c cX0_isEachOnce s _ RX0 m 5 A s.heap D g := C
  have hl : lv_has ls 5 [(0, .ref (ad x0)), (1, .int x1), (2, .int x2)] := hl
  unfold fX0_isEachOnce at h
  refine lv_iconst (v := 0) hx hb dX0_isEachOnce_0 (by decide) ?_
  refine lv_istore_n (lv' := [(3, .int (0 : Int32)), (0, .ref (ad x0)), (1, .int x1), (2, .int x2)]) hx hb dX0_isEachOnce_1 rfl hl (by decide) rfl (fun ls hl => ?_)
  refine lv_iload_n hx hb dX0_isEachOnce_2 rfl (lv_at hl 2 rfl) ?_
  refine lv_istore (lv' := [(4, .int x1), (3, .int (0 : Int32)), (0, .ref (ad x0)), (1, .int x1), (2, .int x2)]) hx hb dX0_isEachOnce_3 hl (by decide) rfl (fun ls hl => ?_)
  obtain ⟨b1, e2, h⟩ := zbind h
  refine wX0_isEachOnce_5 C σ x0 x1 x2 zFU ((0 : Int32), x1) b1 e2 (fun a3 hb H locs ls hw hl => ?_) (fun r4 hb H locs pc ls hw hnn hd => ?_) _ _ _ hw (lv_sub hl [2, 3, 4, 1, 0] rfl)
  · subst hb
    rw [zel_l] at h
    have hl : lv_has ls 5 [(0, .ref (ad x0)), (1, .int x1), (2, .int x2), (3, .int a3.1), (4, .int a3.2)] := hl
    refine lv_iconst (v := 1) hx hb dX0_isEachOnce_57 (by decide) ?_
    obtain rfl := Option.some.inj h
    exact hret _ _ _ _ hw zb1 dX0_isEachOnce_58
  · subst hb
    rw [zel_r] at h
    obtain rfl := Option.some.inj h
    exact hret _ _ _ _ hw hnn hd
set_option maxHeartbeats 4000000 in
set_option maxRecDepth 100000 in
theorem wX0_work_21 {p : Program} {l : Launch} {e : Env} {s : State} {m : MethodId} {args : Array Value} {below : List Frame} {meth : Method} {c : Code} {A : Nat → Prop} {H0 : Heap} {Q : State → Prop} {D : va_G} {g : zG} {ad : Nat → Nat} (C : zCx p c cX0_work s args RX0 m 7 A H0 D g) (x1 : Nat) (x2 : Int32) (x3 : Int32) (n : Nat) (a : (Int32 × Int32 × zSt)) (b : (Int32 × Int32 × zSt)) (h : zLp (fun a => bX0_work_21 x1 x2 x3 a.1 a.2.1 a.2.2) n a = some b) (hk : ∀ (H : Heap) (locs : List Loc) (ls : Array Slot), zH D g 0 ad A H0 b.2.2 H locs → lv_has ls 7 [(0, .ref (ad 10)), (1, .ref (ad x1)), (2, .int x2), (3, .int x3), (4, .int b.1), (5, .int b.2.1)] → W p l e (zRm 1) s m args below meth c H locs 0 0 Q (F0 m 103 ls [])) : ∀ (H : Heap) (locs : List Loc) (ls : Array Slot), zH D g 0 ad A H0 a.2.2 H locs → lv_has ls 7 [(0, .ref (ad 10)), (1, .ref (ad x1)), (2, .int x2), (3, .int x3), (4, .int a.1), (5, .int a.2.1)] → W p l e (zRm 1) s m args below meth c H locs 0 0 Q (F0 m 21 ls []) := by
  obtain ⟨hx, hb, hml, hown, hts, hK, hA⟩ := id C
  refine zLp_walk (P := fun (a : (Int32 × Int32 × zSt)) => ∀ (H : Heap) (locs : List Loc) (ls : Array Slot), zH D g 0 ad A H0 a.2.2 H locs → lv_has ls 7 [(0, .ref (ad 10)), (1, .ref (ad x1)), (2, .int x2), (3, .int x3), (4, .int a.1), (5, .int a.2.1)] → W p l e (zRm 1) s m args below meth c H locs 0 0 Q (F0 m 21 ls [])) (E := fun (b' : (Int32 × Int32 × zSt)) => b' = b) ?_ n a b h rfl
  intro a r h hn he H locs ls hw hl
  obtain ⟨x4, x5, σ⟩ := a
  have h : bX0_work_21 x1 x2 x3 x4 x5 σ = some r := h
  have hl : lv_has ls 7 [(0, .ref (ad 10)), (1, .ref (ad x1)), (2, .int x2), (3, .int x3), (4, .int x4), (5, .int x5)] := hl
  have hw : zH D g 0 ad A H0 σ H locs := hw
  unfold bX0_work_21 at h
  refine lv_iload hx hb dX0_work_21 (lv_at hl 5 rfl) ?_
  refine lv_iconst (v := 2) hx hb dX0_work_23 (by decide) ?_
  refine lv_iload_n hx hb dX0_work_24 rfl (lv_at hl 3 rfl) ?_
  refine lv_imul hx hb dX0_work_25 ?_
  refine lv_icmp_ge (tgt := 103) hx hb dX0_work_26 (by decide) (fun t1 => ?_) (fun t1 => ?_)
  · rw [if_pos t1] at h
    obtain rfl := Option.some.inj h
    obtain rfl := he _ rfl
    exact hk _ _ _ hw (lv_sub hl [0, 1, 2, 3, 4, 5] rfl)
  · rw [if_neg t1] at h
    refine lv_iload hx hb dX0_work_29 (lv_at hl 4 rfl) ?_
    refine lv_iload_n hx hb dX0_work_31 rfl (lv_at hl 3 rfl) ?_
    refine lv_icmp_ge (tgt := 103) hx hb dX0_work_32 (by decide) (fun t2 => ?_) (fun t2 => ?_)
    · rw [if_pos t2] at h
      obtain rfl := Option.some.inj h
      obtain rfl := he _ rfl
      exact hk _ _ _ hw (lv_sub hl [0, 1, 2, 3, 4, 5] rfl)
    · rw [if_neg t2] at h
      refine lv_aload_n hx hb dX0_work_35 rfl (lv_at hl 1 rfl) ?_
      refine lv_iload_n hx hb dX0_work_36 rfl (lv_at hl 2 rfl) ?_
      refine lv_iload hx hb dX0_work_37 (lv_at hl 4 rfl) ?_
      refine lv_iadd hx hb dX0_work_39 ?_
      obtain ⟨v3, e4, h⟩ := zbind h
      refine z_iald hx hb hK hw e4 dX0_work_40 ?_
      refine lv_istore (lv' := [(6, .int v3), (0, .ref (ad 10)), (1, .ref (ad x1)), (2, .int x2), (3, .int x3), (4, .int x4), (5, .int x5)]) hx hb dX0_work_41 hl (by decide) rfl (fun ls hl => ?_)
      refine lv_iload hx hb dX0_work_43 (lv_at hl 0 rfl) ?_
      refine lv_iload hx hb dX0_work_45 (lv_at hl 6 rfl) ?_
      refine lv_icmp_gt (tgt := 75) hx hb dX0_work_47 (by decide) (fun t5 => ?_) (fun t5 => ?_)
      · rw [if_pos t5] at h
        refine lv_aload_n hx hb dX0_work_75 rfl (lv_at hl 1 rfl) ?_
        refine lv_aload_n hx hb dX0_work_76 rfl (lv_at hl 1 rfl) ?_
        refine z_geti hx hb hts zin_X0 hown hK hw zF0_10_1 (hts _ zw_285) dX0_work_77 ?_
        refine lv_iload hx hb dX0_work_80 (lv_at hl 6 rfl) ?_
        refine lv_iconst (v := 1) hx hb dX0_work_82 (by decide) ?_
        refine lv_iadd hx hb dX0_work_83 ?_
        refine lv_iload_n hx hb dX0_work_84 rfl (lv_at hl 4 rfl) ?_
        refine va_mmin hx hb (hml.trans hl.1.symm) hown (hts _ zw_739) (hts _ zw_386) (hts _ zw_65) (hts _ zw_387) (Nat.le_of_ble_eq_true rfl) (Nat.le_of_ble_eq_true rfl) (Nat.zero_le _) (Nat.zero_le _) dX0_work_85 ?_
        refine lv_iload hx hb dX0_work_88 (lv_at hl 5 rfl) ?_
        refine lv_isub hx hb dX0_work_90 ?_
        refine va_mmax hx hb (hml.trans hl.1.symm) hown (hts _ zw_738) (hts _ zw_710) (hts _ zw_65) (hts _ zw_711) (Nat.le_of_ble_eq_true rfl) (Nat.le_of_ble_eq_true rfl) (Nat.zero_le _) (Nat.zero_le _) dX0_work_91 ?_
        refine z_puti hx hb hts zin_X0 tyX0_ok nmX0 hown hK hw zF0_10_1 (hts _ zw_285) zY0_10_1 dX0_work_94 (fun H locs hw => ?_)
        refine lv_iinc (v := x5 + 1) (lv' := [(5, .int (x5 + 1)), (6, .int v3), (0, .ref (ad 10)), (1, .ref (ad x1)), (2, .int x2), (3, .int x3), (4, .int x4)]) hx hb dX0_work_97 hl (k := 6) rfl rfl (by decide) rfl (fun ls hl => ?_)
        refine lv_goto (tgt := 21) hx hb dX0_work_100 (by decide) ?_
        obtain rfl := Option.some.inj h
        exact hn _ rfl _ _ _ hw (lv_sub hl [2, 3, 4, 5, 6, 0] rfl)
      · rw [if_neg t5] at h
        refine lv_aload_n hx hb dX0_work_50 rfl (lv_at hl 1 rfl) ?_
        refine lv_aload_n hx hb dX0_work_51 rfl (lv_at hl 1 rfl) ?_
        refine z_geti hx hb hts zin_X0 hown hK hw zF0_10_2 (hts _ zw_287) dX0_work_52 ?_
        refine lv_iload hx hb dX0_work_55 (lv_at hl 6 rfl) ?_
        refine lv_iload hx hb dX0_work_57 (lv_at hl 0 rfl) ?_
        refine lv_isub hx hb dX0_work_59 ?_
        refine va_mmax hx hb (hml.trans hl.1.symm) hown (hts _ zw_738) (hts _ zw_710) (hts _ zw_65) (hts _ zw_711) (Nat.le_of_ble_eq_true rfl) (Nat.le_of_ble_eq_true rfl) (Nat.zero_le _) (Nat.zero_le _) dX0_work_60 ?_
        refine z_puti hx hb hts zin_X0 tyX0_ok nmX0 hown hK hw zF0_10_2 (hts _ zw_287) zY0_10_2 dX0_work_63 (fun H locs hw => ?_)
        refine lv_aload_n hx hb dX0_work_66 rfl (lv_at hl 1 rfl) ?_
        refine lv_iload hx hb dX0_work_67 (lv_at hl 6 rfl) ?_
        refine z_puti hx hb hts zin_X0 tyX0_ok nmX0 hown hK hw zF0_10_0 (hts _ zw_283) zY0_10_0 dX0_work_69 (fun H locs hw => ?_)
        refine lv_iinc (v := x4 + 1) (lv' := [(4, .int (x4 + 1)), (6, .int v3), (0, .ref (ad 10)), (1, .ref (ad x1)), (2, .int x2), (3, .int x3), (5, .int x5)]) hx hb dX0_work_72 hl (k := 5) rfl rfl (by decide) rfl (fun ls hl => ?_)
        refine lv_aload_n hx hb dX0_work_75 rfl (lv_at hl 2 rfl) ?_
        refine lv_aload_n hx hb dX0_work_76 rfl (lv_at hl 2 rfl) ?_
        refine z_geti hx hb hts zin_X0 hown hK hw zF0_10_1 (hts _ zw_285) dX0_work_77 ?_
        refine lv_iload hx hb dX0_work_80 (lv_at hl 6 rfl) ?_
        refine lv_iconst (v := 1) hx hb dX0_work_82 (by decide) ?_
        refine lv_iadd hx hb dX0_work_83 ?_
        refine lv_iload_n hx hb dX0_work_84 rfl (lv_at hl 5 rfl) ?_
        refine va_mmin hx hb (hml.trans hl.1.symm) hown (hts _ zw_739) (hts _ zw_386) (hts _ zw_65) (hts _ zw_387) (Nat.le_of_ble_eq_true rfl) (Nat.le_of_ble_eq_true rfl) (Nat.zero_le _) (Nat.zero_le _) dX0_work_85 ?_
        refine lv_iload hx hb dX0_work_88 (lv_at hl 0 rfl) ?_
        refine lv_isub hx hb dX0_work_90 ?_
        refine va_mmax hx hb (hml.trans hl.1.symm) hown (hts _ zw_738) (hts _ zw_710) (hts _ zw_65) (hts _ zw_711) (Nat.le_of_ble_eq_true rfl) (Nat.le_of_ble_eq_true rfl) (Nat.zero_le _) (Nat.zero_le _) dX0_work_91 ?_
        refine z_puti hx hb hts zin_X0 tyX0_ok nmX0 hown hK hw zF0_10_1 (hts _ zw_285) zY0_10_1 dX0_work_94 (fun H locs hw => ?_)
        refine lv_iinc (v := x5 + 1) (lv' := [(5, .int (x5 + 1)), (4, .int (x4 + 1)), (6, .int v3), (0, .ref (ad 10)), (1, .ref (ad x1)), (2, .int x2), (3, .int x3)]) hx hb dX0_work_97 hl (k := 6) rfl rfl (by decide) rfl (fun ls hl => ?_)
        refine lv_goto (tgt := 21) hx hb dX0_work_100 (by decide) ?_
        obtain rfl := Option.some.inj h
        exact hn _ rfl _ _ _ hw (lv_sub hl [3, 4, 5, 6, 1, 0] rfl)
theorem hX0_work : yX0_work.cls = RX0 ∧ yX0_work.cls ≠ "java/lang/invoke/MethodHandle" ∧ yX0_work.cls ≠ "java/lang/invoke/VarHandle" ∧ (parseMethodDescriptor yX0_work.desc).map (fun d => d.parameters.length) = some 3 := by decide +kernel
set_option maxHeartbeats 4000000 in
set_option maxRecDepth 100000 in
theorem kX0_work (l : Launch) (D : va_G) (g : zG) (ad : Nat → Nat) (σ : zSt) (x1 : Nat) (x2 : Int32) (x3 : Int32) (o : zSt) (h : fX0_work σ x1 x2 x3 = some o) : zMv l D g 0 ad yX0_work (Cond.code yX0_work cX0_work 7 (none : Option Jvm.ClassFile.FieldType) :: zws) (zRm 1) [.ref (ad 10), .ref (ad x1), .int x2, .int x3] σ o := by
  refine z_enter_v (by decide) (Nat.le_of_ble_eq_true rfl) ?_
  intro p e s m below meth c A ls Q C hw hl hret
  obtain ⟨hx, hb, hml, hown, hts, hK, hA⟩ := id C
  have hown : s.vm.findClass RX0 = some m.cls := hown
  have C : zCx p c cX0_work s _ RX0 m 7 A s.heap D g := C
  have hl : lv_has ls 7 [(0, .ref (ad 10)), (1, .ref (ad x1)), (2, .int x2), (3, .int x3)] := hl
  unfold fX0_work at h
  refine lv_aload_n hx hb dX0_work_0 rfl (lv_at hl 0 rfl) ?_
  refine lv_iconst (v := 0) hx hb dX0_work_1 (by decide) ?_
  refine z_puti hx hb hts zin_X0 tyX0_ok nmX0 hown hK hw zF0_10_0 (hts _ zw_283) zY0_10_0 dX0_work_2 (fun H locs hw => ?_)
  refine lv_aload_n hx hb dX0_work_5 rfl (lv_at hl 0 rfl) ?_
  refine lv_iconst (v := 0) hx hb dX0_work_6 (by decide) ?_
  refine z_puti hx hb hts zin_X0 tyX0_ok nmX0 hown hK hw zF0_10_1 (hts _ zw_285) zY0_10_1 dX0_work_7 (fun H locs hw => ?_)
  refine lv_aload_n hx hb dX0_work_10 rfl (lv_at hl 0 rfl) ?_
  refine lv_iconst (v := 0) hx hb dX0_work_11 (by decide) ?_
  refine z_puti hx hb hts zin_X0 tyX0_ok nmX0 hown hK hw zF0_10_2 (hts _ zw_287) zY0_10_2 dX0_work_12 (fun H locs hw => ?_)
  refine lv_iconst (v := 0) hx hb dX0_work_15 (by decide) ?_
  refine lv_istore (lv' := [(4, .int (0 : Int32)), (0, .ref (ad 10)), (1, .ref (ad x1)), (2, .int x2), (3, .int x3)]) hx hb dX0_work_16 hl (by decide) rfl (fun ls hl => ?_)
  refine lv_iconst (v := 0) hx hb dX0_work_18 (by decide) ?_
  refine lv_istore (lv' := [(5, .int (0 : Int32)), (4, .int (0 : Int32)), (0, .ref (ad 10)), (1, .ref (ad x1)), (2, .int x2), (3, .int x3)]) hx hb dX0_work_19 hl (by decide) rfl (fun ls hl => ?_)
  obtain ⟨b1, e2, h⟩ := zbind h
  refine wX0_work_21 C x1 x2 x3 zFU ((0 : Int32), (0 : Int32), zwI (zwI (zwI σ 10 0 (0 : Int32)) 10 1 (0 : Int32)) 10 2 (0 : Int32)) b1 e2 (fun H locs ls hw hl => ?_) _ _ _ hw (lv_sub hl [2, 3, 4, 5, 1, 0] rfl)
  have hl : lv_has ls 7 [(0, .ref (ad 10)), (1, .ref (ad x1)), (2, .int x2), (3, .int x3), (4, .int b1.1), (5, .int b1.2.1)] := hl
  obtain rfl := Option.some.inj h
  exact hret _ _ _ _ hw dX0_work_103
set_option maxHeartbeats 4000000 in
set_option maxRecDepth 100000 in
theorem wJ7_fill_d0a16_6 {p : Program} {l : Launch} {e : Env} {s : State} {m : MethodId} {args : Array Value} {below : List Frame} {meth : Method} {c : Code} {A : Nat → Prop} {H0 : Heap} {Q : State → Prop} {D : va_G} {g : zG} {ad : Nat → Nat} (C : zCx p c cJ7_fill_d0a16 s args RJ7 m 5 A H0 D g) (x0 : Nat) (x1 : Int64) (x4 : Int32) (n : Nat) (a : (Int32 × zSt)) (b : (Int32 × zSt)) (h : zLp (fun a => bJ7_fill_d0a16_6 x0 x1 x4 a.1 a.2) n a = some b) (hk : ∀ (H : Heap) (locs : List Loc) (ls : Array Slot), zH D g 0 ad A H0 b.2 H locs → lv_has ls 5 [(0, .ref (ad x0)), (1, .long x1), (3, .int b.1), (4, .int x4)] → W p l e (zRm 0) s m args below meth c H locs 0 0 Q (F0 m 22 ls [])) : ∀ (H : Heap) (locs : List Loc) (ls : Array Slot), zH D g 0 ad A H0 a.2 H locs → lv_has ls 5 [(0, .ref (ad x0)), (1, .long x1), (3, .int a.1), (4, .int x4)] → W p l e (zRm 0) s m args below meth c H locs 0 0 Q (F0 m 6 ls []) := by
  obtain ⟨hx, hb, hml, hown, hts, hK, hA⟩ := id C
  refine zLp_walk (P := fun (a : (Int32 × zSt)) => ∀ (H : Heap) (locs : List Loc) (ls : Array Slot), zH D g 0 ad A H0 a.2 H locs → lv_has ls 5 [(0, .ref (ad x0)), (1, .long x1), (3, .int a.1), (4, .int x4)] → W p l e (zRm 0) s m args below meth c H locs 0 0 Q (F0 m 6 ls [])) (E := fun (b' : (Int32 × zSt)) => b' = b) ?_ n a b h rfl
  intro a r h hn he H locs ls hw hl
  obtain ⟨x3, σ⟩ := a
  have h : bJ7_fill_d0a16_6 x0 x1 x4 x3 σ = some r := h
  have hl : lv_has ls 5 [(0, .ref (ad x0)), (1, .long x1), (3, .int x3), (4, .int x4)] := hl
  have hw : zH D g 0 ad A H0 σ H locs := hw
  unfold bJ7_fill_d0a16_6 at h
  refine lv_iload_n hx hb dJ7_fill_d0a16_6 rfl (lv_at hl 2 rfl) ?_
  refine lv_iload hx hb dJ7_fill_d0a16_7 (lv_at hl 3 rfl) ?_
  refine lv_icmp_ge (tgt := 22) hx hb dJ7_fill_d0a16_9 (by decide) (fun t1 => ?_) (fun t1 => ?_)
  · rw [if_pos t1] at h
    obtain rfl := Option.some.inj h
    obtain rfl := he _ rfl
    exact hk _ _ _ hw (lv_sub hl [0, 1, 2, 3] rfl)
  · rw [if_neg t1] at h
    refine lv_aload_n hx hb dJ7_fill_d0a16_12 rfl (lv_at hl 0 rfl) ?_
    refine lv_iload_n hx hb dJ7_fill_d0a16_13 rfl (lv_at hl 2 rfl) ?_
    refine lv_lload_n hx hb dJ7_fill_d0a16_14 rfl (lv_at hl 1 rfl) ?_
    obtain ⟨s2, e3, h⟩ := zbind h
    refine z_last hx hb hK hw e3 dJ7_fill_d0a16_15 (fun H locs hw => ?_)
    refine lv_iinc (v := x3 + 1) (lv' := [(3, .int (x3 + 1)), (0, .ref (ad x0)), (1, .long x1), (4, .int x4)]) hx hb dJ7_fill_d0a16_16 hl (k := 2) rfl rfl (by decide) rfl (fun ls hl => ?_)
    refine lv_goto (tgt := 6) hx hb dJ7_fill_d0a16_19 (by decide) ?_
    obtain rfl := Option.some.inj h
    exact hn _ rfl _ _ _ hw (lv_sub hl [1, 2, 0, 3] rfl)
theorem hJ7_fill_d0a16 : yJ7_fill_d0a16.cls ≠ "java/lang/invoke/MethodHandle" ∧ yJ7_fill_d0a16.cls ≠ "java/lang/invoke/VarHandle" ∧ (parseMethodDescriptor yJ7_fill_d0a16.desc).map (fun d => d.parameters.length) = some 2 := by decide +kernel
set_option maxHeartbeats 4000000 in
set_option maxRecDepth 100000 in
theorem kJ7_fill_d0a16 (l : Launch) (D : va_G) (g : zG) (ad : Nat → Nat) (σ : zSt) (x0 : Nat) (x1 : Int64) (o : zSt) (h : fJ7_fill_d0a16 σ x0 x1 = some o) : zMv l D g 0 ad yJ7_fill_d0a16 (Cond.code yJ7_fill_d0a16 cJ7_fill_d0a16 5 (none : Option Jvm.ClassFile.FieldType) :: zws) (zRm 0) [.ref (ad x0), .long x1] σ o := by
  refine z_enter_v (by decide) (Nat.le_of_ble_eq_true rfl) ?_
  intro p e s m below meth c A ls Q C hw hl hret
  obtain ⟨hx, hb, hml, hown, hts, hK, hA⟩ := id C
  have hown : s.vm.findClass RJ7 = some m.cls := hown
  have C : zCx p c cJ7_fill_d0a16 s _ RJ7 m 5 A s.heap D g := C
  have hl : lv_has ls 5 [(0, .ref (ad x0)), (1, .long x1)] := hl
  unfold fJ7_fill_d0a16 at h
  refine lv_iconst (v := 0) hx hb dJ7_fill_d0a16_0 (by decide) ?_
  refine lv_istore_n (lv' := [(3, .int (0 : Int32)), (0, .ref (ad x0)), (1, .long x1)]) hx hb dJ7_fill_d0a16_1 rfl hl (by decide) rfl (fun ls hl => ?_)
  refine lv_aload_n hx hb dJ7_fill_d0a16_2 rfl (lv_at hl 1 rfl) ?_
  obtain ⟨v1, e2, h⟩ := zbind h
  refine z_alen hx hb hK hw e2 dJ7_fill_d0a16_3 ?_
  refine lv_istore (lv' := [(4, .int v1), (3, .int (0 : Int32)), (0, .ref (ad x0)), (1, .long x1)]) hx hb dJ7_fill_d0a16_4 hl (by decide) rfl (fun ls hl => ?_)
  obtain ⟨b3, e4, h⟩ := zbind h
  refine wJ7_fill_d0a16_6 C x0 x1 v1 zFU ((0 : Int32), σ) b3 e4 (fun H locs ls hw hl => ?_) _ _ _ hw (lv_sub hl [2, 3, 1, 0] rfl)
  have hl : lv_has ls 5 [(0, .ref (ad x0)), (1, .long x1), (3, .int b3.1), (4, .int v1)] := hl
  obtain rfl := Option.some.inj h
  exact hret _ _ _ _ hw dJ7_fill_d0a16_22
theorem hX1_begin : yX1_begin.cls = RX1 ∧ yX1_begin.cls ≠ "java/lang/invoke/MethodHandle" ∧ yX1_begin.cls ≠ "java/lang/invoke/VarHandle" ∧ (parseMethodDescriptor yX1_begin.desc).map (fun d => d.parameters.length) = some 1 := by decide +kernel
set_option maxHeartbeats 4000000 in
set_option maxRecDepth 100000 in
theorem kX1_begin (l : Launch) (D : va_G) (g : zG) (ad : Nat → Nat) (σ : zSt) (x1 : Int32) (o : zSt) (h : fX1_begin σ x1 = some o) : zMv l D g 0 ad yX1_begin (Cond.code yX1_begin cX1_begin 2 (none : Option Jvm.ClassFile.FieldType) :: zws) (zRm 1) [.ref (ad 7), .int x1] σ o := by
  refine z_enter_v (by decide) (Nat.le_of_ble_eq_true rfl) ?_
  intro p e s m below meth c A ls Q C hw hl hret
  obtain ⟨hx, hb, hml, hown, hts, hK, hA⟩ := id C
  have hown : s.vm.findClass RX1 = some m.cls := hown
  have C : zCx p c cX1_begin s _ RX1 m 2 A s.heap D g := C
  have hl : lv_has ls 2 [(0, .ref (ad 7)), (1, .int x1)] := hl
  unfold fX1_begin at h
  refine lv_aload_n hx hb dX1_begin_0 rfl (lv_at hl 0 rfl) ?_
  refine lv_lconst (v := 1) hx hb dX1_begin_1 (by decide) ?_
  refine z_putl hx hb hts zin_X1 tyX1_ok nmX1 hown hK hw zF0_7_0 (hts _ zw_220) zY0_7_0 dX1_begin_2 (fun H locs hw => ?_)
  refine lv_aload_n hx hb dX1_begin_5 rfl (lv_at hl 0 rfl) ?_
  refine z_getr hx hb hts zin_X1 hown hK hw zF0_7_1 (hts _ zw_222) dX1_begin_6 ?_
  refine lv_lconst (v := 0) hx hb dX1_begin_9 (by decide) ?_
  obtain ⟨r1, e2, h⟩ := zbind h
  refine z_cSv (As := [.ref (ad (zR (zwJ σ 7 0 (1 : Int64)) 7 1)), .long (0 : Int64)]) (rest := []) ⟨hx, hb, hml, hown, hts⟩ hK hw hA (kJ7_fill_d0a16 l D g ad (zwJ σ 7 0 (1 : Int64)) (zR (zwJ σ 7 0 (1 : Int64)) 7 1) (0 : Int64) r1 e2) (zcwS 2 hts zgoodIn zw_482 zw_483 zw_54 zw_484 rfl rfl hJ7_fill_d0a16 ⟨Nat.le_of_ble_eq_true rfl, Nat.le_of_ble_eq_true rfl⟩) rfl hl.1 rfl (Nat.le_of_ble_eq_true rfl) dX1_begin_10 ⟨Nat.zero_le _, Nat.zero_le _⟩ (fun H locs hw => ?_)
  refine lv_aload_n hx hb dX1_begin_13 rfl (lv_at hl 0 rfl) ?_
  refine z_getr hx hb hts zin_X1 hown hK hw zF0_7_1 (hts _ zw_222) dX1_begin_14 ?_
  refine lv_iload_n hx hb dX1_begin_17 rfl (lv_at hl 1 rfl) ?_
  refine lv_lconst (v := 1) hx hb dX1_begin_18 (by decide) ?_
  obtain ⟨s3, e4, h⟩ := zbind h
  refine z_last hx hb hK hw e4 dX1_begin_19 (fun H locs hw => ?_)
  obtain rfl := Option.some.inj h
  exact hret _ _ _ _ hw dX1_begin_20
theorem hX8_meaning : yX8_meaning.cls = RX8 ∧ yX8_meaning.cls ≠ "java/lang/invoke/MethodHandle" ∧ yX8_meaning.cls ≠ "java/lang/invoke/VarHandle" ∧ (parseMethodDescriptor yX8_meaning.desc).map (fun d => d.parameters.length) = some 2 := by decide +kernel
set_option maxHeartbeats 4000000 in
set_option maxRecDepth 100000 in
theorem kX8_meaning (l : Launch) (D : va_G) (g : zG) (ad : Nat → Nat) (σ : zSt) (x1 : Int32) (x2 : Int32) (o : Int32) (h : fX8_meaning σ x1 x2 = some o) : zMi l D g 0 ad yX8_meaning (Cond.code yX8_meaning cX8_meaning 3 (some .int) :: zws) (zRm 0) [.ref (ad 3), .int x1, .int x2] σ o σ := by
  refine z_enter_i (by decide) (Nat.le_of_ble_eq_true rfl) ?_
  intro p e s m below meth c A ls Q C hw hl hret
  obtain ⟨hx, hb, hml, hown, hts, hK, hA⟩ := id C
  have hown : s.vm.findClass RX8 = some m.cls := hown
  have C : zCx p c cX8_meaning s _ RX8 m 3 A s.heap D g := C
  have hl : lv_has ls 3 [(0, .ref (ad 3)), (1, .int x1), (2, .int x2)] := hl
  unfold fX8_meaning at h
  refine lv_aload_n hx hb dX8_meaning_0 rfl (lv_at hl 0 rfl) ?_
  refine z_getc hx hb hts zin_X8 hown hK hw zF0_3_2 (hts _ zw_142) dX8_meaning_1 ?_
  refine lv_iload_n hx hb dX8_meaning_4 rfl (lv_at hl 1 rfl) ?_
  refine lv_bipush (v := 6) hx hb dX8_meaning_5 (by decide) ?_
  refine lv_imul hx hb dX8_meaning_7 ?_
  refine lv_iload_n hx hb dX8_meaning_8 rfl (lv_at hl 2 rfl) ?_
  refine lv_iadd hx hb dX8_meaning_9 ?_
  obtain ⟨v1, e2, h⟩ := zbind h
  refine z_iald hx hb hK hw e2 dX8_meaning_10 ?_
  obtain rfl := Option.some.inj h
  exact hret _ _ _ _ hw rfl dX8_meaning_11
set_option maxHeartbeats 4000000 in
set_option maxRecDepth 100000 in
theorem wX8_carry_31 {p : Program} {l : Launch} {e : Env} {s : State} {m : MethodId} {args : Array Value} {below : List Frame} {meth : Method} {c : Code} {A : Nat → Prop} {H0 : Heap} {Q : State → Prop} {D : va_G} {g : zG} {ad : Nat → Nat} (C : zCx p c cX8_carry s args RX8 m 11 A H0 D g) (x1 : Nat) (x4 : Int32) (x5 : Int32) (x6 : Nat) (x7 : Int32) (n : Nat) (a : (Int32 × Int32 × zSt)) (b : (Int32 × Int32 × zSt)) (h : zLp (fun a => bX8_carry_31 x1 x4 x5 x6 x7 a.1 a.2.1 a.2.2) n a = some b) (hk : ∀ (H : Heap) (locs : List Loc) (ls : Array Slot), zH D g 0 ad A H0 b.2.2 H locs → lv_has ls 11 [(0, .ref (ad 3)), (1, .ref (ad x1)), (4, .int x4), (5, .int x5), (6, .ref (ad x6)), (7, .int x7), (8, .int b.1), (9, .int b.2.1)] → W p l e (zRm 1) s m args below meth c H locs 0 0 Q (F0 m 100 ls [])) : ∀ (H : Heap) (locs : List Loc) (ls : Array Slot), zH D g 0 ad A H0 a.2.2 H locs → lv_has ls 11 [(0, .ref (ad 3)), (1, .ref (ad x1)), (4, .int x4), (5, .int x5), (6, .ref (ad x6)), (7, .int x7), (8, .int a.1), (9, .int a.2.1)] → W p l e (zRm 1) s m args below meth c H locs 0 0 Q (F0 m 31 ls []) := by
  obtain ⟨hx, hb, hml, hown, hts, hK, hA⟩ := id C
  refine zLp_walk (P := fun (a : (Int32 × Int32 × zSt)) => ∀ (H : Heap) (locs : List Loc) (ls : Array Slot), zH D g 0 ad A H0 a.2.2 H locs → lv_has ls 11 [(0, .ref (ad 3)), (1, .ref (ad x1)), (4, .int x4), (5, .int x5), (6, .ref (ad x6)), (7, .int x7), (8, .int a.1), (9, .int a.2.1)] → W p l e (zRm 1) s m args below meth c H locs 0 0 Q (F0 m 31 ls [])) (E := fun (b' : (Int32 × Int32 × zSt)) => b' = b) ?_ n a b h rfl
  intro a r h hn he H locs ls hw hl
  obtain ⟨x8, x9, σ⟩ := a
  have h : bX8_carry_31 x1 x4 x5 x6 x7 x8 x9 σ = some r := h
  have hl : lv_has ls 11 [(0, .ref (ad 3)), (1, .ref (ad x1)), (4, .int x4), (5, .int x5), (6, .ref (ad x6)), (7, .int x7), (8, .int x8), (9, .int x9)] := hl
  have hw : zH D g 0 ad A H0 σ H locs := hw
  unfold bX8_carry_31 at h
  refine lv_iload hx hb dX8_carry_31 (lv_at hl 7 rfl) ?_
  refine lv_aload_n hx hb dX8_carry_33 rfl (lv_at hl 0 rfl) ?_
  refine z_geti hx hb hts zin_X8 hown hK hw zF0_3_0 (hts _ zw_137) dX8_carry_34 ?_
  refine lv_icmp_ge (tgt := 100) hx hb dX8_carry_37 (by decide) (fun t1 => ?_) (fun t1 => ?_)
  · rw [if_pos t1] at h
    obtain rfl := Option.some.inj h
    obtain rfl := he _ rfl
    exact hk _ _ _ hw (lv_sub hl [0, 1, 2, 3, 4, 5, 6, 7] rfl)
  · rw [if_neg t1] at h
    refine lv_iload hx hb dX8_carry_40 (lv_at hl 2 rfl) ?_
    refine lv_if_ne (tgt := 53) hx hb dX8_carry_42 (by decide) (fun t2 => ?_) (fun t2 => ?_)
    · rw [if_neg t2] at h
      refine lv_aload hx hb dX8_carry_53 (lv_at hl 4 rfl) ?_
      refine lv_iload hx hb dX8_carry_55 (lv_at hl 7 rfl) ?_
      obtain ⟨v3, e4, h⟩ := zbind h
      refine z_iald hx hb hK hw e4 dX8_carry_57 ?_
      refine lv_iconst (v := 2) hx hb dX8_carry_58 (by decide) ?_
      refine lv_idiv hx hb dX8_carry_59 (by decide) ?_
      refine lv_istore (lv' := [(10, .int (v3 / (2 : Int32))), (0, .ref (ad 3)), (1, .ref (ad x1)), (4, .int x4), (5, .int x5), (6, .ref (ad x6)), (7, .int x7), (8, .int x8), (9, .int x9)]) hx hb dX8_carry_60 hl (by decide) rfl (fun ls hl => ?_)
      refine lv_aload_n hx hb dX8_carry_62 rfl (lv_at hl 2 rfl) ?_
      refine lv_iload hx hb dX8_carry_63 (lv_at hl 8 rfl) ?_
      refine lv_iload hx hb dX8_carry_65 (lv_at hl 0 rfl) ?_
      refine lv_bipush (v := 12) hx hb dX8_carry_67 (by decide) ?_
      refine lv_iload hx hb dX8_carry_69 (lv_at hl 4 rfl) ?_
      refine lv_isub hx hb dX8_carry_71 ?_
      refine lv_imul hx hb dX8_carry_72 ?_
      obtain ⟨s5, e6, h⟩ := zbind h
      refine z_iast hx hb hK hw e6 dX8_carry_73 (fun H locs hw => ?_)
      refine lv_iload hx hb dX8_carry_74 (lv_at hl 8 rfl) ?_
      refine lv_iload hx hb dX8_carry_76 (lv_at hl 6 rfl) ?_
      refine lv_icmp_eq (tgt := 94) hx hb dX8_carry_78 (by decide) (fun t7 => ?_) (fun t7 => ?_)
      · rw [if_pos t7] at h
        refine lv_iinc (v := x9 + 1) (lv' := [(9, .int (x9 + 1)), (10, .int (v3 / (2 : Int32))), (0, .ref (ad 3)), (1, .ref (ad x1)), (4, .int x4), (5, .int x5), (6, .ref (ad x6)), (7, .int x7), (8, .int x8)]) hx hb dX8_carry_94 hl (k := 8) rfl rfl (by decide) rfl (fun ls hl => ?_)
        refine lv_goto (tgt := 31) hx hb dX8_carry_97 (by decide) ?_
        obtain rfl := Option.some.inj h
        exact hn _ rfl _ _ _ hw (lv_sub hl [2, 3, 4, 5, 6, 7, 8, 0] rfl)
      · rw [if_neg t7] at h
        refine lv_iload hx hb dX8_carry_81 (lv_at hl 7 rfl) ?_
        refine lv_aload hx hb dX8_carry_83 (lv_at hl 5 rfl) ?_
        refine lv_iload hx hb dX8_carry_85 (lv_at hl 8 rfl) ?_
        obtain ⟨v8, e9, h⟩ := zbind h
        refine z_iald hx hb hK hw e9 dX8_carry_87 ?_
        refine lv_iload hx hb dX8_carry_88 (lv_at hl 0 rfl) ?_
        refine lv_isub hx hb dX8_carry_90 ?_
        refine lv_iadd hx hb dX8_carry_91 ?_
        refine lv_istore (lv' := [(8, .int (x8 + (v8 - (v3 / (2 : Int32))))), (10, .int (v3 / (2 : Int32))), (0, .ref (ad 3)), (1, .ref (ad x1)), (4, .int x4), (5, .int x5), (6, .ref (ad x6)), (7, .int x7), (9, .int x9)]) hx hb dX8_carry_92 hl (by decide) rfl (fun ls hl => ?_)
        refine lv_iinc (v := x9 + 1) (lv' := [(9, .int (x9 + 1)), (8, .int (x8 + (v8 - (v3 / (2 : Int32))))), (10, .int (v3 / (2 : Int32))), (0, .ref (ad 3)), (1, .ref (ad x1)), (4, .int x4), (5, .int x5), (6, .ref (ad x6)), (7, .int x7)]) hx hb dX8_carry_94 hl (k := 8) rfl rfl (by decide) rfl (fun ls hl => ?_)
        refine lv_goto (tgt := 31) hx hb dX8_carry_97 (by decide) ?_
        obtain rfl := Option.some.inj h
        exact hn _ rfl _ _ _ hw (lv_sub hl [3, 4, 5, 6, 7, 8, 1, 0] rfl)
    · rw [if_pos t2] at h
      refine lv_aload hx hb dX8_carry_45 (lv_at hl 4 rfl) ?_
      refine lv_iload hx hb dX8_carry_47 (lv_at hl 7 rfl) ?_
      obtain ⟨v10, e11, h⟩ := zbind h
      refine z_iald hx hb hK hw e11 dX8_carry_49 ?_
      refine lv_goto (tgt := 60) hx hb dX8_carry_50 (by decide) ?_
      refine lv_istore (lv' := [(10, .int v10), (0, .ref (ad 3)), (1, .ref (ad x1)), (4, .int x4), (5, .int x5), (6, .ref (ad x6)), (7, .int x7), (8, .int x8), (9, .int x9)]) hx hb dX8_carry_60 hl (by decide) rfl (fun ls hl => ?_)
      refine lv_aload_n hx hb dX8_carry_62 rfl (lv_at hl 2 rfl) ?_
      refine lv_iload hx hb dX8_carry_63 (lv_at hl 8 rfl) ?_
      refine lv_iload hx hb dX8_carry_65 (lv_at hl 0 rfl) ?_
      refine lv_bipush (v := 12) hx hb dX8_carry_67 (by decide) ?_
      refine lv_iload hx hb dX8_carry_69 (lv_at hl 4 rfl) ?_
      refine lv_isub hx hb dX8_carry_71 ?_
      refine lv_imul hx hb dX8_carry_72 ?_
      obtain ⟨s12, e13, h⟩ := zbind h
      refine z_iast hx hb hK hw e13 dX8_carry_73 (fun H locs hw => ?_)
      refine lv_iload hx hb dX8_carry_74 (lv_at hl 8 rfl) ?_
      refine lv_iload hx hb dX8_carry_76 (lv_at hl 6 rfl) ?_
      refine lv_icmp_eq (tgt := 94) hx hb dX8_carry_78 (by decide) (fun t14 => ?_) (fun t14 => ?_)
      · rw [if_pos t14] at h
        refine lv_iinc (v := x9 + 1) (lv' := [(9, .int (x9 + 1)), (10, .int v10), (0, .ref (ad 3)), (1, .ref (ad x1)), (4, .int x4), (5, .int x5), (6, .ref (ad x6)), (7, .int x7), (8, .int x8)]) hx hb dX8_carry_94 hl (k := 8) rfl rfl (by decide) rfl (fun ls hl => ?_)
        refine lv_goto (tgt := 31) hx hb dX8_carry_97 (by decide) ?_
        obtain rfl := Option.some.inj h
        exact hn _ rfl _ _ _ hw (lv_sub hl [2, 3, 4, 5, 6, 7, 8, 0] rfl)
      · rw [if_neg t14] at h
        refine lv_iload hx hb dX8_carry_81 (lv_at hl 7 rfl) ?_
        refine lv_aload hx hb dX8_carry_83 (lv_at hl 5 rfl) ?_
        refine lv_iload hx hb dX8_carry_85 (lv_at hl 8 rfl) ?_
        obtain ⟨v15, e16, h⟩ := zbind h
        refine z_iald hx hb hK hw e16 dX8_carry_87 ?_
        refine lv_iload hx hb dX8_carry_88 (lv_at hl 0 rfl) ?_
        refine lv_isub hx hb dX8_carry_90 ?_
        refine lv_iadd hx hb dX8_carry_91 ?_
        refine lv_istore (lv' := [(8, .int (x8 + (v15 - v10))), (10, .int v10), (0, .ref (ad 3)), (1, .ref (ad x1)), (4, .int x4), (5, .int x5), (6, .ref (ad x6)), (7, .int x7), (9, .int x9)]) hx hb dX8_carry_92 hl (by decide) rfl (fun ls hl => ?_)
        refine lv_iinc (v := x9 + 1) (lv' := [(9, .int (x9 + 1)), (8, .int (x8 + (v15 - v10))), (10, .int v10), (0, .ref (ad 3)), (1, .ref (ad x1)), (4, .int x4), (5, .int x5), (6, .ref (ad x6)), (7, .int x7)]) hx hb dX8_carry_94 hl (k := 8) rfl rfl (by decide) rfl (fun ls hl => ?_)
        refine lv_goto (tgt := 31) hx hb dX8_carry_97 (by decide) ?_
        obtain rfl := Option.some.inj h
        exact hn _ rfl _ _ _ hw (lv_sub hl [3, 4, 5, 6, 7, 8, 1, 0] rfl)
theorem hX8_carry : yX8_carry.cls = RX8 ∧ yX8_carry.cls ≠ "java/lang/invoke/MethodHandle" ∧ yX8_carry.cls ≠ "java/lang/invoke/VarHandle" ∧ (parseMethodDescriptor yX8_carry.desc).map (fun d => d.parameters.length) = some 5 := by decide +kernel
set_option maxHeartbeats 4000000 in
set_option maxRecDepth 100000 in
theorem kX8_carry (l : Launch) (D : va_G) (g : zG) (ad : Nat → Nat) (σ : zSt) (x1 : Nat) (x2 : Int32) (x3 : Int32) (x4 : Int32) (x5 : Int32) (o : zSt) (h : fX8_carry σ x1 x2 x3 x4 x5 = some o) : zMv l D g 0 ad yX8_carry (Cond.code yX8_carry cX8_carry 11 (none : Option Jvm.ClassFile.FieldType) :: zws) (zRm 1) [.ref (ad 3), .ref (ad x1), .int x2, .int x3, .int x4, .int x5] σ o := by
  refine z_enter_v (by decide) (Nat.le_of_ble_eq_true rfl) ?_
  intro p e s m below meth c A ls Q C hw hl hret
  obtain ⟨hx, hb, hml, hown, hts, hK, hA⟩ := id C
  have hown : s.vm.findClass RX8 = some m.cls := hown
  have C : zCx p c cX8_carry s _ RX8 m 11 A s.heap D g := C
  have hl : lv_has ls 11 [(0, .ref (ad 3)), (1, .ref (ad x1)), (2, .int x2), (3, .int x3), (4, .int x4), (5, .int x5)] := hl
  unfold fX8_carry at h
  refine lv_aload_n hx hb dX8_carry_0 rfl (lv_at hl 0 rfl) ?_
  refine z_getc hx hb hts zin_X8 hown hK hw zF0_3_1 (hts _ zw_141) dX8_carry_1 ?_
  refine lv_iload_n hx hb dX8_carry_4 rfl (lv_at hl 2 rfl) ?_
  refine lv_bipush (v := 6) hx hb dX8_carry_5 (by decide) ?_
  refine lv_imul hx hb dX8_carry_7 ?_
  refine lv_iload_n hx hb dX8_carry_8 rfl (lv_at hl 3 rfl) ?_
  refine lv_iadd hx hb dX8_carry_9 ?_
  obtain ⟨q1, e2, h⟩ := zbind h
  refine z_aald hx hb hK hw e2 dX8_carry_10 ?_
  refine lv_astore (lv' := [(6, .ref (ad q1)), (0, .ref (ad 3)), (1, .ref (ad x1)), (2, .int x2), (3, .int x3), (4, .int x4), (5, .int x5)]) hx hb dX8_carry_11 hl (by decide) rfl (fun ls hl => ?_)
  refine lv_aload_n hx hb dX8_carry_13 rfl (lv_at hl 1 rfl) ?_
  refine lv_iload_n hx hb dX8_carry_14 rfl (lv_at hl 3 rfl) ?_
  refine lv_iload_n hx hb dX8_carry_15 rfl (lv_at hl 4 rfl) ?_
  obtain ⟨r3, e4, h⟩ := zbind h
  refine z_cVi (As := [.int x2, .int x3]) (rest := []) ⟨hx, hb, hml, hown, hts⟩ hK hw hA (kX8_meaning l D g ad σ x2 x3 r3 e4) (zcwV 2 hts zgoodIn zw_443 zw_432 zw_433 zw_56 zw_434 rfl rfl hX8_meaning ⟨Nat.le_of_ble_eq_true rfl, Nat.le_of_ble_eq_true rfl⟩) zO0_3 rfl hl.1 rfl (Nat.le_of_ble_eq_true rfl) dX8_carry_16 ⟨Nat.zero_le _, Nat.zero_le _⟩ (fun H locs hw => ?_)
  refine lv_istore (lv' := [(7, .int r3), (6, .ref (ad q1)), (0, .ref (ad 3)), (1, .ref (ad x1)), (2, .int x2), (3, .int x3), (4, .int x4), (5, .int x5)]) hx hb dX8_carry_19 hl (by decide) rfl (fun ls hl => ?_)
  refine lv_aload hx hb dX8_carry_21 (lv_at hl 1 rfl) ?_
  refine lv_iload hx hb dX8_carry_23 (lv_at hl 0 rfl) ?_
  obtain ⟨v5, e6, h⟩ := zbind h
  refine z_iald hx hb hK hw e6 dX8_carry_25 ?_
  refine lv_istore (lv' := [(8, .int v5), (7, .int r3), (6, .ref (ad q1)), (0, .ref (ad 3)), (1, .ref (ad x1)), (2, .int x2), (3, .int x3), (4, .int x4), (5, .int x5)]) hx hb dX8_carry_26 hl (by decide) rfl (fun ls hl => ?_)
  refine lv_iconst (v := 0) hx hb dX8_carry_28 (by decide) ?_
  refine lv_istore (lv' := [(9, .int (0 : Int32)), (8, .int v5), (7, .int r3), (6, .ref (ad q1)), (0, .ref (ad 3)), (1, .ref (ad x1)), (2, .int x2), (3, .int x3), (4, .int x4), (5, .int x5)]) hx hb dX8_carry_29 hl (by decide) rfl (fun ls hl => ?_)
  obtain ⟨b7, e8, h⟩ := zbind h
  refine wX8_carry_31 C x1 x4 x5 q1 r3 zFU (v5, (0 : Int32), σ) b7 e8 (fun H locs ls hw hl => ?_) _ _ _ hw (lv_sub hl [4, 5, 8, 9, 3, 2, 1, 0] rfl)
  have hl : lv_has ls 11 [(0, .ref (ad 3)), (1, .ref (ad x1)), (4, .int x4), (5, .int x5), (6, .ref (ad q1)), (7, .int r3), (8, .int b7.1), (9, .int b7.2.1)] := hl
  refine lv_iload hx hb dX8_carry_100 (lv_at hl 2 rfl) ?_
  refine lv_iconst (v := 2) hx hb dX8_carry_102 (by decide) ?_
  refine lv_icmp_ne (tgt := 118) hx hb dX8_carry_103 (by decide) (fun t9 => ?_) (fun t9 => ?_)
  · rw [if_neg t9] at h
    refine lv_aload_n hx hb dX8_carry_118 rfl (lv_at hl 1 rfl) ?_
    refine lv_iload hx hb dX8_carry_119 (lv_at hl 5 rfl) ?_
    refine lv_iload hx hb dX8_carry_121 (lv_at hl 6 rfl) ?_
    refine lv_bipush (v := 12) hx hb dX8_carry_123 (by decide) ?_
    refine lv_iload hx hb dX8_carry_125 (lv_at hl 3 rfl) ?_
    refine lv_isub hx hb dX8_carry_127 ?_
    refine lv_imul hx hb dX8_carry_128 ?_
    obtain ⟨s10, e11, h⟩ := zbind h
    refine z_iast hx hb hK hw e11 dX8_carry_129 (fun H locs hw => ?_)
    obtain rfl := Option.some.inj h
    exact hret _ _ _ _ hw dX8_carry_130
  · rw [if_pos t9] at h
    refine lv_iload hx hb dX8_carry_106 (lv_at hl 6 rfl) ?_
    refine lv_aload hx hb dX8_carry_108 (lv_at hl 4 rfl) ?_
    refine lv_aload_n hx hb dX8_carry_110 rfl (lv_at hl 0 rfl) ?_
    refine z_geti hx hb hts zin_X8 hown hK hw zF0_3_0 (hts _ zw_137) dX8_carry_111 ?_
    obtain ⟨v12, e13, h⟩ := zbind h
    refine z_iald hx hb hK hw e13 dX8_carry_114 ?_
    refine lv_iadd hx hb dX8_carry_115 ?_
    refine lv_istore (lv' := [(8, .int (b7.1 + v12)), (0, .ref (ad 3)), (1, .ref (ad x1)), (4, .int x4), (5, .int x5), (6, .ref (ad q1)), (7, .int r3), (9, .int b7.2.1)]) hx hb dX8_carry_116 hl (by decide) rfl (fun ls hl => ?_)
    refine lv_aload_n hx hb dX8_carry_118 rfl (lv_at hl 2 rfl) ?_
    refine lv_iload hx hb dX8_carry_119 (lv_at hl 6 rfl) ?_
    refine lv_iload hx hb dX8_carry_121 (lv_at hl 0 rfl) ?_
    refine lv_bipush (v := 12) hx hb dX8_carry_123 (by decide) ?_
    refine lv_iload hx hb dX8_carry_125 (lv_at hl 4 rfl) ?_
    refine lv_isub hx hb dX8_carry_127 ?_
    refine lv_imul hx hb dX8_carry_128 ?_
    obtain ⟨s14, e15, h⟩ := zbind h
    refine z_iast hx hb hK hw e15 dX8_carry_129 (fun H locs hw => ?_)
    obtain rfl := Option.some.inj h
    exact hret _ _ _ _ hw dX8_carry_130
set_option maxHeartbeats 4000000 in
set_option maxRecDepth 100000 in
theorem wX1_hand_37 {p : Program} {l : Launch} {e : Env} {s : State} {m : MethodId} {args : Array Value} {below : List Frame} {meth : Method} {c : Code} {A : Nat → Prop} {H0 : Heap} {Q : State → Prop} {D : va_G} {g : zG} {ad : Nat → Nat} (C : zCx p c cX1_hand s args RX1 m 7 A H0 D g) (x2 : Int32) (x3 : Int32) (x4 : Int32) (x5 : Int32) (n : Nat) (a : (Int32 × zSt)) (b : (Int32 × zSt)) (h : zLp (fun a => bX1_hand_37 x2 x3 x4 x5 a.1 a.2) n a = some b) (hk : ∀ (H : Heap) (locs : List Loc) (ls : Array Slot), zH D g 0 ad A H0 b.2 H locs → lv_has ls 7 [(0, .ref (ad 7)), (1, .ref (ad 3)), (2, .int x2), (3, .int x3), (4, .int x4), (5, .int x5), (6, .int b.1)] → W p l e (zRm 2) s m args below meth c H locs 0 0 Q (F0 m 78 ls [])) : ∀ (H : Heap) (locs : List Loc) (ls : Array Slot), zH D g 0 ad A H0 a.2 H locs → lv_has ls 7 [(0, .ref (ad 7)), (1, .ref (ad 3)), (2, .int x2), (3, .int x3), (4, .int x4), (5, .int x5), (6, .int a.1)] → W p l e (zRm 2) s m args below meth c H locs 0 0 Q (F0 m 37 ls []) := by
  obtain ⟨hx, hb, hml, hown, hts, hK, hA⟩ := id C
  refine zLp_walk (P := fun (a : (Int32 × zSt)) => ∀ (H : Heap) (locs : List Loc) (ls : Array Slot), zH D g 0 ad A H0 a.2 H locs → lv_has ls 7 [(0, .ref (ad 7)), (1, .ref (ad 3)), (2, .int x2), (3, .int x3), (4, .int x4), (5, .int x5), (6, .int a.1)] → W p l e (zRm 2) s m args below meth c H locs 0 0 Q (F0 m 37 ls [])) (E := fun (b' : (Int32 × zSt)) => b' = b) ?_ n a b h rfl
  intro a r h hn he H locs ls hw hl
  obtain ⟨x6, σ⟩ := a
  have h : bX1_hand_37 x2 x3 x4 x5 x6 σ = some r := h
  have hl : lv_has ls 7 [(0, .ref (ad 7)), (1, .ref (ad 3)), (2, .int x2), (3, .int x3), (4, .int x4), (5, .int x5), (6, .int x6)] := hl
  have hw : zH D g 0 ad A H0 σ H locs := hw
  unfold bX1_hand_37 at h
  refine lv_iload hx hb dX1_hand_37 (lv_at hl 6 rfl) ?_
  refine lv_aload_n hx hb dX1_hand_39 rfl (lv_at hl 1 rfl) ?_
  refine z_geti hx hb hts zin_X8 hown hK hw zF0_3_0 (hts _ zw_140) dX1_hand_40 ?_
  refine lv_icmp_ge (tgt := 78) hx hb dX1_hand_43 (by decide) (fun t1 => ?_) (fun t1 => ?_)
  · rw [if_pos t1] at h
    obtain rfl := Option.some.inj h
    obtain rfl := he _ rfl
    exact hk _ _ _ hw (lv_sub hl [0, 1, 2, 3, 4, 5, 6] rfl)
  · rw [if_neg t1] at h
    refine lv_aload_n hx hb dX1_hand_46 rfl (lv_at hl 0 rfl) ?_
    refine z_getr hx hb hts zin_X1 hown hK hw zF0_7_2 (hts _ zw_223) dX1_hand_47 ?_
    refine lv_iload hx hb dX1_hand_50 (lv_at hl 6 rfl) ?_
    refine lv_dup2_11 hx hb dX1_hand_52 rfl rfl ?_
    obtain ⟨v2, e3, h⟩ := zbind h
    refine z_lald hx hb hK hw e3 dX1_hand_53 ?_
    refine lv_aload_n hx hb dX1_hand_54 rfl (lv_at hl 0 rfl) ?_
    refine z_getr hx hb hts zin_X1 hown hK hw zF0_7_1 (hts _ zw_222) dX1_hand_55 ?_
    refine lv_iload hx hb dX1_hand_58 (lv_at hl 5 rfl) ?_
    obtain ⟨v4, e5, h⟩ := zbind h
    refine z_lald hx hb hK hw e5 dX1_hand_60 ?_
    refine lv_aload_n hx hb dX1_hand_61 rfl (lv_at hl 0 rfl) ?_
    refine z_getc hx hb hts zin_X1 hown hK hw zF0_7_3 (hts _ zw_224) dX1_hand_62 ?_
    refine lv_iload hx hb dX1_hand_65 (lv_at hl 6 rfl) ?_
    obtain ⟨v6, e7, h⟩ := zbind h
    refine z_iald hx hb hK hw e7 dX1_hand_67 ?_
    refine lv_i2l hx hb dX1_hand_68 rfl ?_
    refine lv_lmul hx hb dX1_hand_69 ?_
    refine lv_ladd hx hb dX1_hand_70 ?_
    obtain ⟨s8, e9, h⟩ := zbind h
    refine z_last hx hb hK hw e9 dX1_hand_71 (fun H locs hw => ?_)
    refine lv_iinc (v := x6 + 1) (lv' := [(6, .int (x6 + 1)), (0, .ref (ad 7)), (1, .ref (ad 3)), (2, .int x2), (3, .int x3), (4, .int x4), (5, .int x5)]) hx hb dX1_hand_72 hl (k := 6) rfl rfl (by decide) rfl (fun ls hl => ?_)
    refine lv_goto (tgt := 37) hx hb dX1_hand_75 (by decide) ?_
    obtain rfl := Option.some.inj h
    exact hn _ rfl _ _ _ hw (lv_sub hl [1, 2, 3, 4, 5, 6, 0] rfl)
set_option maxHeartbeats 4000000 in
set_option maxRecDepth 100000 in
theorem wX1_hand_11 {p : Program} {l : Launch} {e : Env} {s : State} {m : MethodId} {args : Array Value} {below : List Frame} {meth : Method} {c : Code} {A : Nat → Prop} {H0 : Heap} {Q : State → Prop} {D : va_G} {g : zG} {ad : Nat → Nat} (C : zCx p c cX1_hand s args RX1 m 7 A H0 D g) (x2 : Int32) (x3 : Int32) (x4 : Int32) (n : Nat) (a : (Int32 × zSt)) (b : (Int32 × zSt)) (h : zLp (fun a => bX1_hand_11 x2 x3 x4 a.1 a.2) n a = some b) (hk : ∀ (H : Heap) (locs : List Loc) (ls : Array Slot), zH D g 0 ad A H0 b.2 H locs → lv_has ls 7 [(0, .ref (ad 7)), (1, .ref (ad 3)), (2, .int x2), (3, .int x3), (4, .int x4), (5, .int b.1)] → W p l e (zRm 2) s m args below meth c H locs 0 0 Q (F0 m 84 ls [])) : ∀ (H : Heap) (locs : List Loc) (ls : Array Slot), zH D g 0 ad A H0 a.2 H locs → lv_has ls 7 [(0, .ref (ad 7)), (1, .ref (ad 3)), (2, .int x2), (3, .int x3), (4, .int x4), (5, .int a.1)] → W p l e (zRm 2) s m args below meth c H locs 0 0 Q (F0 m 11 ls []) := by
  obtain ⟨hx, hb, hml, hown, hts, hK, hA⟩ := id C
  refine zLp_walk (P := fun (a : (Int32 × zSt)) => ∀ (H : Heap) (locs : List Loc) (ls : Array Slot), zH D g 0 ad A H0 a.2 H locs → lv_has ls 7 [(0, .ref (ad 7)), (1, .ref (ad 3)), (2, .int x2), (3, .int x3), (4, .int x4), (5, .int a.1)] → W p l e (zRm 2) s m args below meth c H locs 0 0 Q (F0 m 11 ls [])) (E := fun (b' : (Int32 × zSt)) => b' = b) ?_ n a b h rfl
  intro a r h hn he H locs ls hw hl
  obtain ⟨x5, σ⟩ := a
  have h : bX1_hand_11 x2 x3 x4 x5 σ = some r := h
  have hl : lv_has ls 7 [(0, .ref (ad 7)), (1, .ref (ad 3)), (2, .int x2), (3, .int x3), (4, .int x4), (5, .int x5)] := hl
  have hw : zH D g 0 ad A H0 σ H locs := hw
  unfold bX1_hand_11 at h
  refine lv_iload hx hb dX1_hand_11 (lv_at hl 5 rfl) ?_
  refine lv_aload_n hx hb dX1_hand_13 rfl (lv_at hl 1 rfl) ?_
  refine z_geti hx hb hts zin_X8 hown hK hw zF0_3_0 (hts _ zw_140) dX1_hand_14 ?_
  refine lv_icmp_ge (tgt := 84) hx hb dX1_hand_17 (by decide) (fun t1 => ?_) (fun t1 => ?_)
  · rw [if_pos t1] at h
    obtain rfl := Option.some.inj h
    obtain rfl := he _ rfl
    exact hk _ _ _ hw (lv_sub hl [0, 1, 2, 3, 4, 5] rfl)
  · rw [if_neg t1] at h
    refine lv_aload_n hx hb dX1_hand_20 rfl (lv_at hl 1 rfl) ?_
    refine lv_aload_n hx hb dX1_hand_21 rfl (lv_at hl 0 rfl) ?_
    refine z_getc hx hb hts zin_X1 hown hK hw zF0_7_3 (hts _ zw_224) dX1_hand_22 ?_
    refine lv_iload_n hx hb dX1_hand_25 rfl (lv_at hl 2 rfl) ?_
    refine lv_iload hx hb dX1_hand_26 (lv_at hl 5 rfl) ?_
    refine lv_iload_n hx hb dX1_hand_28 rfl (lv_at hl 3 rfl) ?_
    refine lv_iload hx hb dX1_hand_29 (lv_at hl 4 rfl) ?_
    obtain ⟨r2, e3, h⟩ := zbind h
    refine z_cVv (As := [.ref (ad 71), .int x2, .int x5, .int x3, .int x4]) (rest := []) ⟨hx, hb, hml, hown, hts⟩ hK hw hA (kX8_carry l D g ad σ 71 x2 x5 x3 x4 r2 e3) (zcwV 5 hts zgoodIn zw_489 zw_490 zw_491 zw_56 zw_492 rfl rfl hX8_carry ⟨Nat.le_of_ble_eq_true rfl, Nat.le_of_ble_eq_true rfl⟩) zO0_3 rfl hl.1 rfl (Nat.le_of_ble_eq_true rfl) dX1_hand_31 ⟨Nat.zero_le _, Nat.zero_le _⟩ (fun H locs hw => ?_)
    refine lv_iconst (v := 0) hx hb dX1_hand_34 (by decide) ?_
    refine lv_istore (lv' := [(6, .int (0 : Int32)), (0, .ref (ad 7)), (1, .ref (ad 3)), (2, .int x2), (3, .int x3), (4, .int x4), (5, .int x5)]) hx hb dX1_hand_35 hl (by decide) rfl (fun ls hl => ?_)
    obtain ⟨b4, e5, h⟩ := zbind h
    refine wX1_hand_37 C x2 x3 x4 x5 zFU ((0 : Int32), r2) b4 e5 (fun H locs ls hw hl => ?_) _ _ _ hw (lv_sub hl [1, 2, 3, 4, 5, 6, 0] rfl)
    have hl : lv_has ls 7 [(0, .ref (ad 7)), (1, .ref (ad 3)), (2, .int x2), (3, .int x3), (4, .int x4), (5, .int x5), (6, .int b4.1)] := hl
    refine lv_iinc (v := x5 + 1) (lv' := [(5, .int (x5 + 1)), (0, .ref (ad 7)), (1, .ref (ad 3)), (2, .int x2), (3, .int x3), (4, .int x4), (6, .int b4.1)]) hx hb dX1_hand_78 hl (k := 5) rfl rfl (by decide) rfl (fun ls hl => ?_)
    refine lv_goto (tgt := 11) hx hb dX1_hand_81 (by decide) ?_
    obtain rfl := Option.some.inj h
    exact hn _ rfl _ _ _ hw (lv_sub hl [1, 2, 3, 4, 5, 0] rfl)
theorem hX1_hand : yX1_hand.cls = RX1 ∧ yX1_hand.cls ≠ "java/lang/invoke/MethodHandle" ∧ yX1_hand.cls ≠ "java/lang/invoke/VarHandle" ∧ (parseMethodDescriptor yX1_hand.desc).map (fun d => d.parameters.length) = some 4 := by decide +kernel
set_option maxHeartbeats 4000000 in
set_option maxRecDepth 100000 in
theorem kX1_hand (l : Launch) (D : va_G) (g : zG) (ad : Nat → Nat) (σ : zSt) (x2 : Int32) (x3 : Int32) (x4 : Int32) (o : zSt) (h : fX1_hand σ x2 x3 x4 = some o) : zMv l D g 0 ad yX1_hand (Cond.code yX1_hand cX1_hand 7 (none : Option Jvm.ClassFile.FieldType) :: zws) (zRm 2) [.ref (ad 7), .ref (ad 3), .int x2, .int x3, .int x4] σ o := by
  refine z_enter_v (by decide) (Nat.le_of_ble_eq_true rfl) ?_
  intro p e s m below meth c A ls Q C hw hl hret
  obtain ⟨hx, hb, hml, hown, hts, hK, hA⟩ := id C
  have hown : s.vm.findClass RX1 = some m.cls := hown
  have C : zCx p c cX1_hand s _ RX1 m 7 A s.heap D g := C
  have hl : lv_has ls 7 [(0, .ref (ad 7)), (1, .ref (ad 3)), (2, .int x2), (3, .int x3), (4, .int x4)] := hl
  unfold fX1_hand at h
  refine lv_aload_n hx hb dX1_hand_0 rfl (lv_at hl 0 rfl) ?_
  refine z_getr hx hb hts zin_X1 hown hK hw zF0_7_2 (hts _ zw_223) dX1_hand_1 ?_
  refine lv_lconst (v := 0) hx hb dX1_hand_4 (by decide) ?_
  obtain ⟨r1, e2, h⟩ := zbind h
  refine z_cSv (As := [.ref (ad (zR σ 7 2)), .long (0 : Int64)]) (rest := []) ⟨hx, hb, hml, hown, hts⟩ hK hw hA (kJ7_fill_d0a16 l D g ad σ (zR σ 7 2) (0 : Int64) r1 e2) (zcwS 2 hts zgoodIn zw_482 zw_483 zw_54 zw_484 rfl rfl hJ7_fill_d0a16 ⟨Nat.le_of_ble_eq_true rfl, Nat.le_of_ble_eq_true rfl⟩) rfl hl.1 rfl (Nat.le_of_ble_eq_true rfl) dX1_hand_5 ⟨Nat.zero_le _, Nat.zero_le _⟩ (fun H locs hw => ?_)
  refine lv_iconst (v := 0) hx hb dX1_hand_8 (by decide) ?_
  refine lv_istore (lv' := [(5, .int (0 : Int32)), (0, .ref (ad 7)), (1, .ref (ad 3)), (2, .int x2), (3, .int x3), (4, .int x4)]) hx hb dX1_hand_9 hl (by decide) rfl (fun ls hl => ?_)
  obtain ⟨b3, e4, h⟩ := zbind h
  refine wX1_hand_11 C x2 x3 x4 zFU ((0 : Int32), r1) b3 e4 (fun H locs ls hw hl => ?_) _ _ _ hw (lv_sub hl [1, 2, 3, 4, 5, 0] rfl)
  have hl : lv_has ls 7 [(0, .ref (ad 7)), (1, .ref (ad 3)), (2, .int x2), (3, .int x3), (4, .int x4), (5, .int b3.1)] := hl
  refine lv_aload_n hx hb dX1_hand_84 rfl (lv_at hl 0 rfl) ?_
  refine z_getr hx hb hts zin_X1 hown hK hw zF0_7_1 (hts _ zw_222) dX1_hand_85 ?_
  refine lv_astore (lv' := [(5, .ref (ad (zR b3.2 7 1))), (0, .ref (ad 7)), (1, .ref (ad 3)), (2, .int x2), (3, .int x3), (4, .int x4)]) hx hb dX1_hand_88 hl (by decide) rfl (fun ls hl => ?_)
  refine lv_aload_n hx hb dX1_hand_90 rfl (lv_at hl 1 rfl) ?_
  refine lv_aload_n hx hb dX1_hand_91 rfl (lv_at hl 1 rfl) ?_
  refine z_getr hx hb hts zin_X1 hown hK hw zF0_7_2 (hts _ zw_223) dX1_hand_92 ?_
  refine z_putr hx hb hts zin_X1 tyX1_ok nmX1 hown hK hw zF0_7_1 (hts _ zw_222) zY0_7_1 dX1_hand_95 (fun H locs hw => ?_)
  refine lv_aload_n hx hb dX1_hand_98 rfl (lv_at hl 1 rfl) ?_
  refine lv_aload hx hb dX1_hand_99 (lv_at hl 0 rfl) ?_
  refine z_putr hx hb hts zin_X1 tyX1_ok nmX1 hown hK hw zF0_7_2 (hts _ zw_223) zY0_7_2 dX1_hand_101 (fun H locs hw => ?_)
  refine lv_aload_n hx hb dX1_hand_104 rfl (lv_at hl 1 rfl) ?_
  refine lv_dup hx hb dX1_hand_105 rfl ?_
  refine z_getl hx hb hts zin_X1 hown hK hw zF0_7_0 (hts _ zw_220) dX1_hand_106 ?_
  refine lv_ldc2 hx hb hown (hts _ zw_493) dX1_hand_109 ?_
  refine lv_lmul hx hb dX1_hand_112 ?_
  refine z_putl hx hb hts zin_X1 tyX1_ok nmX1 hown hK hw zF0_7_0 (hts _ zw_220) zY0_7_0 dX1_hand_113 (fun H locs hw => ?_)
  obtain rfl := Option.some.inj h
  exact hret _ _ _ _ hw dX1_hand_116
set_option maxHeartbeats 4000000 in
set_option maxRecDepth 100000 in
theorem wX1_timesAs_20 {p : Program} {l : Launch} {e : Env} {s : State} {m : MethodId} {args : Array Value} {below : List Frame} {meth : Method} {c : Code} {A : Nat → Prop} {H0 : Heap} {Q : State → Prop} {D : va_G} {g : zG} {ad : Nat → Nat} (C : zCx p c cX1_timesAs s args RX1 m 6 A H0 D g) (σ : zSt) (x2 : Int32) (n : Nat) (a : (Int64 × Int32)) (b : (Int64 × Int32)) (h : zLp (fun a => bX1_timesAs_20 σ x2 a.1 a.2) n a = some b) (hk : ∀ (H : Heap) (locs : List Loc) (ls : Array Slot), zH D g 0 ad A H0 σ H locs → lv_has ls 6 [(0, .ref (ad 7)), (2, .int x2), (3, .long b.1), (5, .int b.2)] → W p l e (zRm 0) s m args below meth c H locs 0 0 Q (F0 m 42 ls [])) : ∀ (H : Heap) (locs : List Loc) (ls : Array Slot), zH D g 0 ad A H0 σ H locs → lv_has ls 6 [(0, .ref (ad 7)), (2, .int x2), (3, .long a.1), (5, .int a.2)] → W p l e (zRm 0) s m args below meth c H locs 0 0 Q (F0 m 20 ls []) := by
  obtain ⟨hx, hb, hml, hown, hts, hK, hA⟩ := id C
  refine zLp_walk (P := fun (a : (Int64 × Int32)) => ∀ (H : Heap) (locs : List Loc) (ls : Array Slot), zH D g 0 ad A H0 σ H locs → lv_has ls 6 [(0, .ref (ad 7)), (2, .int x2), (3, .long a.1), (5, .int a.2)] → W p l e (zRm 0) s m args below meth c H locs 0 0 Q (F0 m 20 ls [])) (E := fun (b' : (Int64 × Int32)) => b' = b) ?_ n a b h rfl
  intro a r h hn he H locs ls hw hl
  obtain ⟨x3, x5⟩ := a
  have h : bX1_timesAs_20 σ x2 x3 x5 = some r := h
  have hl : lv_has ls 6 [(0, .ref (ad 7)), (2, .int x2), (3, .long x3), (5, .int x5)] := hl
  have hw : zH D g 0 ad A H0 σ H locs := hw
  unfold bX1_timesAs_20 at h
  refine lv_iload hx hb dX1_timesAs_20 (lv_at hl 3 rfl) ?_
  refine lv_iload_n hx hb dX1_timesAs_22 rfl (lv_at hl 1 rfl) ?_
  refine lv_icmp_ge (tgt := 42) hx hb dX1_timesAs_23 (by decide) (fun t1 => ?_) (fun t1 => ?_)
  · rw [if_pos t1] at h
    obtain rfl := Option.some.inj h
    obtain rfl := he _ rfl
    exact hk _ _ _ hw (lv_sub hl [0, 1, 2, 3] rfl)
  · rw [if_neg t1] at h
    refine lv_lload_n hx hb dX1_timesAs_26 rfl (lv_at hl 2 rfl) ?_
    refine lv_aload_n hx hb dX1_timesAs_27 rfl (lv_at hl 0 rfl) ?_
    refine z_getr hx hb hts zin_X1 hown hK hw zF0_7_1 (hts _ zw_222) dX1_timesAs_28 ?_
    refine lv_iload hx hb dX1_timesAs_31 (lv_at hl 3 rfl) ?_
    obtain ⟨v2, e3, h⟩ := zbind h
    refine z_lald hx hb hK hw e3 dX1_timesAs_33 ?_
    refine lv_lsub hx hb dX1_timesAs_34 ?_
    refine lv_lstore_n (lv' := [(3, .long (x3 - v2)), (0, .ref (ad 7)), (2, .int x2), (5, .int x5)]) hx hb dX1_timesAs_35 rfl hl (by decide) rfl (fun ls hl => ?_)
    refine lv_iinc (v := x5 + 1) (lv' := [(5, .int (x5 + 1)), (3, .long (x3 - v2)), (0, .ref (ad 7)), (2, .int x2)]) hx hb dX1_timesAs_36 hl (k := 3) rfl rfl (by decide) rfl (fun ls hl => ?_)
    refine lv_goto (tgt := 20) hx hb dX1_timesAs_39 (by decide) ?_
    obtain rfl := Option.some.inj h
    exact hn _ rfl _ _ _ hw (lv_sub hl [2, 3, 1, 0] rfl)
theorem hX1_timesAs : yX1_timesAs.cls = RX1 ∧ yX1_timesAs.cls ≠ "java/lang/invoke/MethodHandle" ∧ yX1_timesAs.cls ≠ "java/lang/invoke/VarHandle" ∧ (parseMethodDescriptor yX1_timesAs.desc).map (fun d => d.parameters.length) = some 2 := by decide +kernel
set_option maxHeartbeats 4000000 in
set_option maxRecDepth 100000 in
theorem kX1_timesAs (l : Launch) (D : va_G) (g : zG) (ad : Nat → Nat) (σ : zSt) (x1 : Int32) (x2 : Int32) (o : Int64) (h : fX1_timesAs σ x1 x2 = some o) : zMl l D g 0 ad yX1_timesAs (Cond.code yX1_timesAs cX1_timesAs 6 (some .long) :: zws) (zRm 0) [.ref (ad 7), .int x1, .int x2] σ o σ := by
  refine z_enter_l (by decide) (Nat.le_of_ble_eq_true rfl) ?_
  intro p e s m below meth c A ls Q C hw hl hret
  obtain ⟨hx, hb, hml, hown, hts, hK, hA⟩ := id C
  have hown : s.vm.findClass RX1 = some m.cls := hown
  have C : zCx p c cX1_timesAs s _ RX1 m 6 A s.heap D g := C
  have hl : lv_has ls 6 [(0, .ref (ad 7)), (1, .int x1), (2, .int x2)] := hl
  unfold fX1_timesAs at h
  refine lv_iload_n hx hb dX1_timesAs_0 rfl (lv_at hl 1 rfl) ?_
  refine lv_iload_n hx hb dX1_timesAs_1 rfl (lv_at hl 2 rfl) ?_
  refine lv_icmp_ge (tgt := 12) hx hb dX1_timesAs_2 (by decide) (fun t1 => ?_) (fun t1 => ?_)
  · rw [if_pos t1] at h
    refine lv_aload_n hx hb dX1_timesAs_12 rfl (lv_at hl 0 rfl) ?_
    refine z_getl hx hb hts zin_X1 hown hK hw zF0_7_0 (hts _ zw_220) dX1_timesAs_13 ?_
    refine lv_lstore_n (lv' := [(3, .long (zJ σ 7 0)), (0, .ref (ad 7)), (1, .int x1), (2, .int x2)]) hx hb dX1_timesAs_16 rfl hl (by decide) rfl (fun ls hl => ?_)
    refine lv_iconst (v := 0) hx hb dX1_timesAs_17 (by decide) ?_
    refine lv_istore (lv' := [(5, .int (0 : Int32)), (3, .long (zJ σ 7 0)), (0, .ref (ad 7)), (1, .int x1), (2, .int x2)]) hx hb dX1_timesAs_18 hl (by decide) rfl (fun ls hl => ?_)
    obtain ⟨b2, e3, h⟩ := zbind h
    refine wX1_timesAs_20 C σ x2 zFU (zJ σ 7 0, (0 : Int32)) b2 e3 (fun H locs ls hw hl => ?_) _ _ _ hw (lv_sub hl [2, 4, 1, 0] rfl)
    have hl : lv_has ls 6 [(0, .ref (ad 7)), (2, .int x2), (3, .long b2.1), (5, .int b2.2)] := hl
    refine lv_lload_n hx hb dX1_timesAs_42 rfl (lv_at hl 2 rfl) ?_
    obtain rfl := Option.some.inj h
    exact hret _ _ _ _ hw dX1_timesAs_43
  · rw [if_neg t1] at h
    refine lv_aload_n hx hb dX1_timesAs_5 rfl (lv_at hl 0 rfl) ?_
    refine z_getr hx hb hts zin_X1 hown hK hw zF0_7_1 (hts _ zw_222) dX1_timesAs_6 ?_
    refine lv_iload_n hx hb dX1_timesAs_9 rfl (lv_at hl 1 rfl) ?_
    obtain ⟨v4, e5, h⟩ := zbind h
    refine z_lald hx hb hK hw e5 dX1_timesAs_10 ?_
    obtain rfl := Option.some.inj h
    exact hret _ _ _ _ hw dX1_timesAs_11
set_option maxHeartbeats 4000000 in
set_option maxRecDepth 100000 in
theorem wX1_likeliest_4 {p : Program} {l : Launch} {e : Env} {s : State} {m : MethodId} {args : Array Value} {below : List Frame} {meth : Method} {c : Code} {A : Nat → Prop} {H0 : Heap} {Q : State → Prop} {D : va_G} {g : zG} {ad : Nat → Nat} (C : zCx p c cX1_likeliest s args RX1 m 4 A H0 D g) (σ : zSt) (x1 : Int32) (n : Nat) (a : (Int32 × Int32)) (b : (Int32 × Int32)) (h : zLp (fun a => bX1_likeliest_4 σ x1 a.1 a.2) n a = some b) (hk : ∀ (H : Heap) (locs : List Loc) (ls : Array Slot), zH D g 0 ad A H0 σ H locs → lv_has ls 4 [(0, .ref (ad 7)), (1, .int x1), (2, .int b.1), (3, .int b.2)] → W p l e (zRm 0) s m args below meth c H locs 0 0 Q (F0 m 33 ls [])) : ∀ (H : Heap) (locs : List Loc) (ls : Array Slot), zH D g 0 ad A H0 σ H locs → lv_has ls 4 [(0, .ref (ad 7)), (1, .int x1), (2, .int a.1), (3, .int a.2)] → W p l e (zRm 0) s m args below meth c H locs 0 0 Q (F0 m 4 ls []) := by
  obtain ⟨hx, hb, hml, hown, hts, hK, hA⟩ := id C
  refine zLp_walk (P := fun (a : (Int32 × Int32)) => ∀ (H : Heap) (locs : List Loc) (ls : Array Slot), zH D g 0 ad A H0 σ H locs → lv_has ls 4 [(0, .ref (ad 7)), (1, .int x1), (2, .int a.1), (3, .int a.2)] → W p l e (zRm 0) s m args below meth c H locs 0 0 Q (F0 m 4 ls [])) (E := fun (b' : (Int32 × Int32)) => b' = b) ?_ n a b h rfl
  intro a r h hn he H locs ls hw hl
  obtain ⟨x2, x3⟩ := a
  have h : bX1_likeliest_4 σ x1 x2 x3 = some r := h
  have hl : lv_has ls 4 [(0, .ref (ad 7)), (1, .int x1), (2, .int x2), (3, .int x3)] := hl
  have hw : zH D g 0 ad A H0 σ H locs := hw
  unfold bX1_likeliest_4 at h
  refine lv_iload_n hx hb dX1_likeliest_4 rfl (lv_at hl 3 rfl) ?_
  refine lv_iload_n hx hb dX1_likeliest_5 rfl (lv_at hl 1 rfl) ?_
  refine lv_icmp_ge (tgt := 33) hx hb dX1_likeliest_6 (by decide) (fun t1 => ?_) (fun t1 => ?_)
  · rw [if_pos t1] at h
    obtain rfl := Option.some.inj h
    obtain rfl := he _ rfl
    exact hk _ _ _ hw (lv_sub hl [0, 1, 2, 3] rfl)
  · rw [if_neg t1] at h
    refine lv_aload_n hx hb dX1_likeliest_9 rfl (lv_at hl 0 rfl) ?_
    refine z_getr hx hb hts zin_X1 hown hK hw zF0_7_1 (hts _ zw_222) dX1_likeliest_10 ?_
    refine lv_iload_n hx hb dX1_likeliest_13 rfl (lv_at hl 3 rfl) ?_
    obtain ⟨v2, e3, h⟩ := zbind h
    refine z_lald hx hb hK hw e3 dX1_likeliest_14 ?_
    refine lv_aload_n hx hb dX1_likeliest_15 rfl (lv_at hl 0 rfl) ?_
    refine z_getr hx hb hts zin_X1 hown hK hw zF0_7_1 (hts _ zw_222) dX1_likeliest_16 ?_
    refine lv_iload_n hx hb dX1_likeliest_19 rfl (lv_at hl 2 rfl) ?_
    obtain ⟨v4, e5, h⟩ := zbind h
    refine z_lald hx hb hK hw e5 dX1_likeliest_20 ?_
    refine z_lcle (tgt := 27) hx hb dX1_likeliest_21 dX1_likeliest_22 (by decide) (fun t6 => ?_) (fun t6 => ?_)
    · rw [if_pos t6] at h
      refine lv_iinc (v := x3 + 1) (lv' := [(3, .int (x3 + 1)), (0, .ref (ad 7)), (1, .int x1), (2, .int x2)]) hx hb dX1_likeliest_27 hl (k := 3) rfl rfl (by decide) rfl (fun ls hl => ?_)
      refine lv_goto (tgt := 4) hx hb dX1_likeliest_30 (by decide) ?_
      obtain rfl := Option.some.inj h
      exact hn _ rfl _ _ _ hw (lv_sub hl [1, 2, 3, 0] rfl)
    · rw [if_neg t6] at h
      refine lv_iload_n hx hb dX1_likeliest_25 rfl (lv_at hl 3 rfl) ?_
      refine lv_istore_n (lv' := [(2, .int x3), (0, .ref (ad 7)), (1, .int x1), (3, .int x3)]) hx hb dX1_likeliest_26 rfl hl (by decide) rfl (fun ls hl => ?_)
      refine lv_iinc (v := x3 + 1) (lv' := [(3, .int (x3 + 1)), (2, .int x3), (0, .ref (ad 7)), (1, .int x1)]) hx hb dX1_likeliest_27 hl (k := 3) rfl rfl (by decide) rfl (fun ls hl => ?_)
      refine lv_goto (tgt := 4) hx hb dX1_likeliest_30 (by decide) ?_
      obtain rfl := Option.some.inj h
      exact hn _ rfl _ _ _ hw (lv_sub hl [2, 3, 1, 0] rfl)
theorem hX1_likeliest : yX1_likeliest.cls = RX1 ∧ yX1_likeliest.cls ≠ "java/lang/invoke/MethodHandle" ∧ yX1_likeliest.cls ≠ "java/lang/invoke/VarHandle" ∧ (parseMethodDescriptor yX1_likeliest.desc).map (fun d => d.parameters.length) = some 1 := by decide +kernel
set_option maxHeartbeats 4000000 in
set_option maxRecDepth 100000 in
theorem kX1_likeliest (l : Launch) (D : va_G) (g : zG) (ad : Nat → Nat) (σ : zSt) (x1 : Int32) (o : Int32) (h : fX1_likeliest σ x1 = some o) : zMi l D g 0 ad yX1_likeliest (Cond.code yX1_likeliest cX1_likeliest 4 (some .int) :: zws) (zRm 0) [.ref (ad 7), .int x1] σ o σ := by
  refine z_enter_i (by decide) (Nat.le_of_ble_eq_true rfl) ?_
  intro p e s m below meth c A ls Q C hw hl hret
  obtain ⟨hx, hb, hml, hown, hts, hK, hA⟩ := id C
  have hown : s.vm.findClass RX1 = some m.cls := hown
  have C : zCx p c cX1_likeliest s _ RX1 m 4 A s.heap D g := C
  have hl : lv_has ls 4 [(0, .ref (ad 7)), (1, .int x1)] := hl
  unfold fX1_likeliest at h
  refine lv_iconst (v := 0) hx hb dX1_likeliest_0 (by decide) ?_
  refine lv_istore_n (lv' := [(2, .int (0 : Int32)), (0, .ref (ad 7)), (1, .int x1)]) hx hb dX1_likeliest_1 rfl hl (by decide) rfl (fun ls hl => ?_)
  refine lv_iconst (v := 1) hx hb dX1_likeliest_2 (by decide) ?_
  refine lv_istore_n (lv' := [(3, .int (1 : Int32)), (2, .int (0 : Int32)), (0, .ref (ad 7)), (1, .int x1)]) hx hb dX1_likeliest_3 rfl hl (by decide) rfl (fun ls hl => ?_)
  obtain ⟨b1, e2, h⟩ := zbind h
  refine wX1_likeliest_4 C σ x1 zFU ((0 : Int32), (1 : Int32)) b1 e2 (fun H locs ls hw hl => ?_) _ _ _ hw (lv_sub hl [2, 3, 1, 0] rfl)
  have hl : lv_has ls 4 [(0, .ref (ad 7)), (1, .int x1), (2, .int b1.1), (3, .int b1.2)] := hl
  refine lv_iload_n hx hb dX1_likeliest_33 rfl (lv_at hl 2 rfl) ?_
  obtain rfl := Option.some.inj h
  exact hret _ _ _ _ hw rfl dX1_likeliest_34
theorem hX2_has : yX2_has.cls = RX2 ∧ yX2_has.cls ≠ "java/lang/invoke/MethodHandle" ∧ yX2_has.cls ≠ "java/lang/invoke/VarHandle" ∧ (parseMethodDescriptor yX2_has.desc).map (fun d => d.parameters.length) = some 1 := by decide +kernel
set_option maxHeartbeats 4000000 in
set_option maxRecDepth 100000 in
theorem kX2_has (l : Launch) (D : va_G) (g : zG) (ad : Nat → Nat) (σ : zSt) (x1 : Int32) (o : Int32) (h : fX2_has σ x1 = o) : zMi l D g 0 ad yX2_has (Cond.code yX2_has cX2_has 2 (some .boolean) :: zws) (zRm 0) [.ref (ad 4), .int x1] σ o σ := by
  refine z_enter_i (by decide) (Nat.le_of_ble_eq_true rfl) ?_
  intro p e s m below meth c A ls Q C hw hl hret
  obtain ⟨hx, hb, hml, hown, hts, hK, hA⟩ := id C
  have hown : s.vm.findClass RX2 = some m.cls := hown
  have C : zCx p c cX2_has s _ RX2 m 2 A s.heap D g := C
  have hl : lv_has ls 2 [(0, .ref (ad 4)), (1, .int x1)] := hl
  unfold fX2_has at h
  refine lv_iload_n hx hb dX2_has_0 rfl (lv_at hl 1 rfl) ?_
  refine lv_if_lt (tgt := 16) hx hb dX2_has_1 (by decide) (fun t1 => ?_) (fun t1 => ?_)
  · rw [if_pos t1] at h
    refine lv_iconst (v := 0) hx hb dX2_has_16 (by decide) ?_
    subst h
    exact hret _ _ _ _ hw zb0 dX2_has_17
  · rw [if_neg t1] at h
    refine lv_iload_n hx hb dX2_has_4 rfl (lv_at hl 1 rfl) ?_
    refine lv_aload_n hx hb dX2_has_5 rfl (lv_at hl 0 rfl) ?_
    refine z_geti hx hb hts zin_X2 hown hK hw zF0_4_2 (hts _ zw_160) dX2_has_6 ?_
    refine lv_icmp_ge (tgt := 16) hx hb dX2_has_9 (by decide) (fun t2 => ?_) (fun t2 => ?_)
    · rw [if_pos t2] at h
      refine lv_iconst (v := 0) hx hb dX2_has_16 (by decide) ?_
      subst h
      exact hret _ _ _ _ hw zb0 dX2_has_17
    · rw [if_neg t2] at h
      refine lv_iconst (v := 1) hx hb dX2_has_12 (by decide) ?_
      refine lv_goto (tgt := 17) hx hb dX2_has_13 (by decide) ?_
      subst h
      exact hret _ _ _ _ hw zb1 dX2_has_17
set_option maxHeartbeats 4000000 in
set_option maxRecDepth 100000 in
theorem wX2_hasAll_3 {p : Program} {l : Launch} {e : Env} {s : State} {m : MethodId} {args : Array Value} {below : List Frame} {meth : Method} {c : Code} {A : Nat → Prop} {H0 : Heap} {Q : State → Prop} {D : va_G} {g : zG} {ad : Nat → Nat} (C : zCx p c cX2_hasAll s args RX2 m 5 A H0 D g) (σ : zSt) (x1 : Nat) (x2 : Int32) (x3 : Int32) (n : Nat) (a : Int32) (b : (Int32 ⊕ (Int32))) (h : zLp (fun a => bX2_hasAll_3 σ x1 x2 x3 a) n a = some b) (hk1 : ∀ a, b = .inl a → ∀ (H : Heap) (locs : List Loc) (ls : Array Slot), zH D g 0 ad A H0 σ H locs → lv_has ls 5 [(0, .ref (ad 4)), (1, .ref (ad x1)), (2, .int x2), (3, .int x3), (4, .int a)] → W p l e (zRm 1) s m args below meth c H locs 0 0 Q (F0 m 30 ls [])) (hk2 : ∀ r, b = .inr r → ∀ (H : Heap) (locs : List Loc) (pc : Nat) (ls : Array Slot), zH D g 0 ad A H0 σ H locs → narrow .boolean (.int r) = .int r → decode cX2_hasAll pc = .ok (.ireturn, 1) → W p l e (zRm 1) s m args below meth c H locs 0 0 Q (F0 m pc ls [.int r])) : ∀ (H : Heap) (locs : List Loc) (ls : Array Slot), zH D g 0 ad A H0 σ H locs → lv_has ls 5 [(0, .ref (ad 4)), (1, .ref (ad x1)), (2, .int x2), (3, .int x3), (4, .int a)] → W p l e (zRm 1) s m args below meth c H locs 0 0 Q (F0 m 3 ls []) := by
  obtain ⟨hx, hb, hml, hown, hts, hK, hA⟩ := id C
  refine zLp_walk (P := fun (a : Int32) => ∀ (H : Heap) (locs : List Loc) (ls : Array Slot), zH D g 0 ad A H0 σ H locs → lv_has ls 5 [(0, .ref (ad 4)), (1, .ref (ad x1)), (2, .int x2), (3, .int x3), (4, .int a)] → W p l e (zRm 1) s m args below meth c H locs 0 0 Q (F0 m 3 ls [])) (E := fun (b' : (Int32 ⊕ (Int32))) => b' = b) ?_ n a b h rfl
  intro a r h hn he H locs ls hw hl
  obtain ⟨x4, rfl⟩ : ∃ z, z = a := ⟨_, rfl⟩
  have h : bX2_hasAll_3 σ x1 x2 x3 x4 = some r := h
  have hl : lv_has ls 5 [(0, .ref (ad 4)), (1, .ref (ad x1)), (2, .int x2), (3, .int x3), (4, .int x4)] := hl
  have hw : zH D g 0 ad A H0 σ H locs := hw
  unfold bX2_hasAll_3 at h
  refine lv_iload hx hb dX2_hasAll_3 (lv_at hl 4 rfl) ?_
  refine lv_iload_n hx hb dX2_hasAll_5 rfl (lv_at hl 2 rfl) ?_
  refine lv_iload_n hx hb dX2_hasAll_6 rfl (lv_at hl 3 rfl) ?_
  refine lv_iadd hx hb dX2_hasAll_7 ?_
  refine lv_icmp_ge (tgt := 30) hx hb dX2_hasAll_8 (by decide) (fun t1 => ?_) (fun t1 => ?_)
  · rw [if_pos t1] at h
    obtain rfl := Option.some.inj h
    obtain rfl := he _ rfl
    exact hk1 _ rfl _ _ _ hw (lv_sub hl [0, 1, 2, 3, 4] rfl)
  · rw [if_neg t1] at h
    refine lv_aload_n hx hb dX2_hasAll_11 rfl (lv_at hl 0 rfl) ?_
    refine lv_aload_n hx hb dX2_hasAll_12 rfl (lv_at hl 1 rfl) ?_
    refine lv_iload hx hb dX2_hasAll_13 (lv_at hl 4 rfl) ?_
    obtain ⟨v2, e3, h⟩ := zbind h
    refine z_iald hx hb hK hw e3 dX2_hasAll_15 ?_
    refine z_cVi (As := [.int v2]) (rest := []) ⟨hx, hb, hml, hown, hts⟩ hK hw hA (kX2_has l D g ad σ v2 _ rfl) (zcwV 1 hts zgoodIn zw_518 zw_467 zw_468 zw_57 zw_469 rfl rfl hX2_has ⟨Nat.le_of_ble_eq_true rfl, Nat.le_of_ble_eq_true rfl⟩) zO0_4 rfl hl.1 rfl (Nat.le_of_ble_eq_true rfl) dX2_hasAll_16 ⟨Nat.zero_le _, Nat.zero_le _⟩ (fun H locs hw => ?_)
    refine lv_if_ne (tgt := 24) hx hb dX2_hasAll_19 (by decide) (fun t4 => ?_) (fun t4 => ?_)
    · rw [if_neg t4] at h
      refine lv_iinc (v := x4 + 1) (lv' := [(4, .int (x4 + 1)), (0, .ref (ad 4)), (1, .ref (ad x1)), (2, .int x2), (3, .int x3)]) hx hb dX2_hasAll_24 hl (k := 4) rfl rfl (by decide) rfl (fun ls hl => ?_)
      refine lv_goto (tgt := 3) hx hb dX2_hasAll_27 (by decide) ?_
      obtain rfl := Option.some.inj h
      exact hn _ rfl _ _ _ hw (lv_sub hl [1, 2, 3, 4, 0] rfl)
    · rw [if_pos t4] at h
      refine lv_iconst (v := 0) hx hb dX2_hasAll_22 (by decide) ?_
      obtain rfl := Option.some.inj h
      obtain rfl := he _ rfl
      exact hk2 _ rfl _ _ _ _ hw zb0 dX2_hasAll_23
theorem hX2_hasAll : yX2_hasAll.cls = RX2 ∧ yX2_hasAll.cls ≠ "java/lang/invoke/MethodHandle" ∧ yX2_hasAll.cls ≠ "java/lang/invoke/VarHandle" ∧ (parseMethodDescriptor yX2_hasAll.desc).map (fun d => d.parameters.length) = some 3 := by decide +kernel
set_option maxHeartbeats 4000000 in
set_option maxRecDepth 100000 in
theorem kX2_hasAll (l : Launch) (D : va_G) (g : zG) (ad : Nat → Nat) (σ : zSt) (x1 : Nat) (x2 : Int32) (x3 : Int32) (o : Int32) (h : fX2_hasAll σ x1 x2 x3 = some o) : zMi l D g 0 ad yX2_hasAll (Cond.code yX2_hasAll cX2_hasAll 5 (some .boolean) :: zws) (zRm 1) [.ref (ad 4), .ref (ad x1), .int x2, .int x3] σ o σ := by
  refine z_enter_i (by decide) (Nat.le_of_ble_eq_true rfl) ?_
  intro p e s m below meth c A ls Q C hw hl hret
  obtain ⟨hx, hb, hml, hown, hts, hK, hA⟩ := id C
  have hown : s.vm.findClass RX2 = some m.cls := hown
  have C : zCx p c cX2_hasAll s _ RX2 m 5 A s.heap D g := C
  have hl : lv_has ls 5 [(0, .ref (ad 4)), (1, .ref (ad x1)), (2, .int x2), (3, .int x3)] := hl
  unfold fX2_hasAll at h
  refine lv_iload_n hx hb dX2_hasAll_0 rfl (lv_at hl 2 rfl) ?_
  refine lv_istore (lv' := [(4, .int x2), (0, .ref (ad 4)), (1, .ref (ad x1)), (2, .int x2), (3, .int x3)]) hx hb dX2_hasAll_1 hl (by decide) rfl (fun ls hl => ?_)
  obtain ⟨b1, e2, h⟩ := zbind h
  refine wX2_hasAll_3 C σ x1 x2 x3 zFU x2 b1 e2 (fun a3 hb H locs ls hw hl => ?_) (fun r4 hb H locs pc ls hw hnn hd => ?_) _ _ _ hw (lv_sub hl [1, 2, 3, 4, 0] rfl)
  · subst hb
    rw [zel_l] at h
    have hl : lv_has ls 5 [(0, .ref (ad 4)), (1, .ref (ad x1)), (2, .int x2), (3, .int x3), (4, .int a3)] := hl
    refine lv_iconst (v := 1) hx hb dX2_hasAll_30 (by decide) ?_
    obtain rfl := Option.some.inj h
    exact hret _ _ _ _ hw zb1 dX2_hasAll_31
  · subst hb
    rw [zel_r] at h
    obtain rfl := Option.some.inj h
    exact hret _ _ _ _ hw hnn hd
theorem hX2_isFull : yX2_isFull.cls = RX2 ∧ yX2_isFull.cls ≠ "java/lang/invoke/MethodHandle" ∧ yX2_isFull.cls ≠ "java/lang/invoke/VarHandle" ∧ (parseMethodDescriptor yX2_isFull.desc).map (fun d => d.parameters.length) = some 0 := by decide +kernel
set_option maxHeartbeats 4000000 in
set_option maxRecDepth 100000 in
theorem kX2_isFull (l : Launch) (D : va_G) (g : zG) (ad : Nat → Nat) (σ : zSt) (o : Int32) (h : fX2_isFull σ = o) : zMi l D g 0 ad yX2_isFull (Cond.code yX2_isFull cX2_isFull 1 (some .boolean) :: zws) (zRm 0) [.ref (ad 4)] σ o σ := by
  refine z_enter_i (by decide) (Nat.le_of_ble_eq_true rfl) ?_
  intro p e s m below meth c A ls Q C hw hl hret
  obtain ⟨hx, hb, hml, hown, hts, hK, hA⟩ := id C
  have hown : s.vm.findClass RX2 = some m.cls := hown
  have C : zCx p c cX2_isFull s _ RX2 m 1 A s.heap D g := C
  have hl : lv_has ls 1 [(0, .ref (ad 4))] := hl
  unfold fX2_isFull at h
  refine lv_aload_n hx hb dX2_isFull_0 rfl (lv_at hl 0 rfl) ?_
  refine z_geti hx hb hts zin_X2 hown hK hw zF0_4_2 (hts _ zw_160) dX2_isFull_1 ?_
  refine lv_iconst (v := 4) hx hb dX2_isFull_4 (by decide) ?_
  refine lv_icmp_lt (tgt := 12) hx hb dX2_isFull_5 (by decide) (fun t1 => ?_) (fun t1 => ?_)
  · rw [if_pos t1] at h
    refine lv_iconst (v := 0) hx hb dX2_isFull_12 (by decide) ?_
    subst h
    exact hret _ _ _ _ hw zb0 dX2_isFull_13
  · rw [if_neg t1] at h
    refine lv_iconst (v := 1) hx hb dX2_isFull_8 (by decide) ?_
    refine lv_goto (tgt := 13) hx hb dX2_isFull_9 (by decide) ?_
    subst h
    exact hret _ _ _ _ hw zb1 dX2_isFull_13
theorem hX2_hire : yX2_hire.cls = RX2 ∧ yX2_hire.cls ≠ "java/lang/invoke/MethodHandle" ∧ yX2_hire.cls ≠ "java/lang/invoke/VarHandle" ∧ (parseMethodDescriptor yX2_hire.desc).map (fun d => d.parameters.length) = some 2 := by decide +kernel
set_option maxHeartbeats 4000000 in
set_option maxRecDepth 100000 in
theorem kX2_hire (l : Launch) (D : va_G) (g : zG) (ad : Nat → Nat) (σ : zSt) (x1 : Int32) (x2 : Int32) (o : Int32 × zSt) (h : fX2_hire σ x1 x2 = some o) : zMi l D g 0 ad yX2_hire (Cond.code yX2_hire cX2_hire 3 (some .int) :: zws) (zRm 0) [.ref (ad 4), .int x1, .int x2] σ o.1 o.2 := by
  refine z_enter_i (by decide) (Nat.le_of_ble_eq_true rfl) ?_
  intro p e s m below meth c A ls Q C hw hl hret
  obtain ⟨hx, hb, hml, hown, hts, hK, hA⟩ := id C
  have hown : s.vm.findClass RX2 = some m.cls := hown
  have C : zCx p c cX2_hire s _ RX2 m 3 A s.heap D g := C
  have hl : lv_has ls 3 [(0, .ref (ad 4)), (1, .int x1), (2, .int x2)] := hl
  unfold fX2_hire at h
  refine lv_aload_n hx hb dX2_hire_0 rfl (lv_at hl 0 rfl) ?_
  refine z_getc hx hb hts zin_X2 hown hK hw zF0_4_0 (hts _ zw_156) dX2_hire_1 ?_
  refine lv_aload_n hx hb dX2_hire_4 rfl (lv_at hl 0 rfl) ?_
  refine z_geti hx hb hts zin_X2 hown hK hw zF0_4_2 (hts _ zw_160) dX2_hire_5 ?_
  refine lv_iload_n hx hb dX2_hire_8 rfl (lv_at hl 1 rfl) ?_
  obtain ⟨s1, e2, h⟩ := zbind h
  refine z_iast hx hb hK hw e2 dX2_hire_9 (fun H locs hw => ?_)
  refine lv_aload_n hx hb dX2_hire_10 rfl (lv_at hl 0 rfl) ?_
  refine z_getc hx hb hts zin_X2 hown hK hw zF0_4_1 (hts _ zw_158) dX2_hire_11 ?_
  refine lv_aload_n hx hb dX2_hire_14 rfl (lv_at hl 0 rfl) ?_
  refine z_geti hx hb hts zin_X2 hown hK hw zF0_4_2 (hts _ zw_160) dX2_hire_15 ?_
  refine lv_iload_n hx hb dX2_hire_18 rfl (lv_at hl 2 rfl) ?_
  obtain ⟨s3, e4, h⟩ := zbind h
  refine z_iast hx hb hK hw e4 dX2_hire_19 (fun H locs hw => ?_)
  refine lv_aload_n hx hb dX2_hire_20 rfl (lv_at hl 0 rfl) ?_
  refine lv_dup hx hb dX2_hire_21 rfl ?_
  refine z_geti hx hb hts zin_X2 hown hK hw zF0_4_2 (hts _ zw_160) dX2_hire_22 ?_
  refine lv_iconst (v := 1) hx hb dX2_hire_25 (by decide) ?_
  refine lv_iadd hx hb dX2_hire_26 ?_
  refine z_puti hx hb hts zin_X2 tyX2_ok nmX2 hown hK hw zF0_4_2 (hts _ zw_160) zY0_4_2 dX2_hire_27 (fun H locs hw => ?_)
  refine lv_aload_n hx hb dX2_hire_30 rfl (lv_at hl 0 rfl) ?_
  refine z_geti hx hb hts zin_X2 hown hK hw zF0_4_2 (hts _ zw_160) dX2_hire_31 ?_
  refine lv_iconst (v := 1) hx hb dX2_hire_34 (by decide) ?_
  refine lv_isub hx hb dX2_hire_35 ?_
  obtain rfl := Option.some.inj h
  exact hret _ _ _ _ hw rfl dX2_hire_36
theorem hX2_mark : yX2_mark.cls = RX2 ∧ yX2_mark.cls ≠ "java/lang/invoke/MethodHandle" ∧ yX2_mark.cls ≠ "java/lang/invoke/VarHandle" ∧ (parseMethodDescriptor yX2_mark.desc).map (fun d => d.parameters.length) = some 1 := by decide +kernel
set_option maxHeartbeats 4000000 in
set_option maxRecDepth 100000 in
theorem kX2_mark (l : Launch) (D : va_G) (g : zG) (ad : Nat → Nat) (σ : zSt) (x1 : Int32) (o : zSt) (h : fX2_mark σ x1 = o) : zMv l D g 0 ad yX2_mark (Cond.code yX2_mark cX2_mark 2 (none : Option Jvm.ClassFile.FieldType) :: zws) (zRm 0) [.ref (ad 4), .int x1] σ o := by
  refine z_enter_v (by decide) (Nat.le_of_ble_eq_true rfl) ?_
  intro p e s m below meth c A ls Q C hw hl hret
  obtain ⟨hx, hb, hml, hown, hts, hK, hA⟩ := id C
  have hown : s.vm.findClass RX2 = some m.cls := hown
  have C : zCx p c cX2_mark s _ RX2 m 2 A s.heap D g := C
  have hl : lv_has ls 2 [(0, .ref (ad 4)), (1, .int x1)] := hl
  unfold fX2_mark at h
  refine lv_aload_n hx hb dX2_mark_0 rfl (lv_at hl 0 rfl) ?_
  refine lv_bipush (v := 31) hx hb dX2_mark_1 (by decide) ?_
  refine lv_aload_n hx hb dX2_mark_3 rfl (lv_at hl 0 rfl) ?_
  refine z_geti hx hb hts zin_X2 hown hK hw zF0_4_3 (hts _ zw_162) dX2_mark_4 ?_
  refine lv_imul hx hb dX2_mark_7 ?_
  refine lv_iload_n hx hb dX2_mark_8 rfl (lv_at hl 1 rfl) ?_
  refine lv_iadd hx hb dX2_mark_9 ?_
  refine z_puti hx hb hts zin_X2 tyX2_ok nmX2 hown hK hw zF0_4_3 (hts _ zw_162) zY0_4_3 dX2_mark_10 (fun H locs hw => ?_)
  subst h
  exact hret _ _ _ _ hw dX2_mark_13
theorem hX2_toldByKin : yX2_toldByKin.cls = RX2 ∧ yX2_toldByKin.cls ≠ "java/lang/invoke/MethodHandle" ∧ yX2_toldByKin.cls ≠ "java/lang/invoke/VarHandle" ∧ (parseMethodDescriptor yX2_toldByKin.desc).map (fun d => d.parameters.length) = some 1 := by decide +kernel
set_option maxHeartbeats 4000000 in
set_option maxRecDepth 100000 in
theorem kX2_toldByKin (l : Launch) (D : va_G) (g : zG) (ad : Nat → Nat) (σ : zSt) (x1 : Int32) (o : Int32 × zSt) (h : fX2_toldByKin σ x1 = some o) : zMi l D g 0 ad yX2_toldByKin (Cond.code yX2_toldByKin cX2_toldByKin 2 (some .int) :: zws) (zRm 1) [.ref (ad 4), .int x1] σ o.1 o.2 := by
  refine z_enter_i (by decide) (Nat.le_of_ble_eq_true rfl) ?_
  intro p e s m below meth c A ls Q C hw hl hret
  obtain ⟨hx, hb, hml, hown, hts, hK, hA⟩ := id C
  have hown : s.vm.findClass RX2 = some m.cls := hown
  have C : zCx p c cX2_toldByKin s _ RX2 m 2 A s.heap D g := C
  have hl : lv_has ls 2 [(0, .ref (ad 4)), (1, .int x1)] := hl
  unfold fX2_toldByKin at h
  refine lv_aload_n hx hb dX2_toldByKin_0 rfl (lv_at hl 0 rfl) ?_
  refine lv_iconst (v := 1) hx hb dX2_toldByKin_1 (by decide) ?_
  refine z_cVv (As := [.int (1 : Int32)]) (rest := []) ⟨hx, hb, hml, hown, hts⟩ hK hw hA (kX2_mark l D g ad σ (1 : Int32) _ rfl) (zcwV 1 hts zgoodIn zw_796 zw_798 zw_21 zw_57 zw_799 rfl rfl hX2_mark ⟨Nat.le_of_ble_eq_true rfl, Nat.le_of_ble_eq_true rfl⟩) zO0_4 rfl hl.1 rfl (Nat.le_of_ble_eq_true rfl) dX2_toldByKin_2 ⟨Nat.zero_le _, Nat.zero_le _⟩ (fun H locs hw => ?_)
  refine lv_aload_n hx hb dX2_toldByKin_5 rfl (lv_at hl 0 rfl) ?_
  refine z_getc hx hb hts zin_X2 hown hK hw zF0_4_1 (hts _ zw_158) dX2_toldByKin_6 ?_
  refine lv_iload_n hx hb dX2_toldByKin_9 rfl (lv_at hl 1 rfl) ?_
  obtain ⟨v1, e2, h⟩ := zbind h
  refine z_iald hx hb hK hw e2 dX2_toldByKin_10 ?_
  obtain rfl := Option.some.inj h
  exact hret _ _ _ _ hw rfl dX2_toldByKin_11
theorem hX2_toldByTrained : yX2_toldByTrained.cls = RX2 ∧ yX2_toldByTrained.cls ≠ "java/lang/invoke/MethodHandle" ∧ yX2_toldByTrained.cls ≠ "java/lang/invoke/VarHandle" ∧ (parseMethodDescriptor yX2_toldByTrained.desc).map (fun d => d.parameters.length) = some 1 := by decide +kernel
set_option maxHeartbeats 4000000 in
set_option maxRecDepth 100000 in
theorem kX2_toldByTrained (l : Launch) (D : va_G) (g : zG) (ad : Nat → Nat) (σ : zSt) (x1 : Int32) (o : Int32 × zSt) (h : fX2_toldByTrained σ x1 = some o) : zMi l D g 0 ad yX2_toldByTrained (Cond.code yX2_toldByTrained cX2_toldByTrained 2 (some .int) :: zws) (zRm 2) [.ref (ad 4), .int x1] σ o.1 o.2 := by
  refine z_enter_i (by decide) (Nat.le_of_ble_eq_true rfl) ?_
  intro p e s m below meth c A ls Q C hw hl hret
  obtain ⟨hx, hb, hml, hown, hts, hK, hA⟩ := id C
  have hown : s.vm.findClass RX2 = some m.cls := hown
  have C : zCx p c cX2_toldByTrained s _ RX2 m 2 A s.heap D g := C
  have hl : lv_has ls 2 [(0, .ref (ad 4)), (1, .int x1)] := hl
  unfold fX2_toldByTrained at h
  refine lv_aload_n hx hb dX2_toldByTrained_0 rfl (lv_at hl 0 rfl) ?_
  refine lv_iconst (v := 2) hx hb dX2_toldByTrained_1 (by decide) ?_
  refine z_cVv (As := [.int (2 : Int32)]) (rest := []) ⟨hx, hb, hml, hown, hts⟩ hK hw hA (kX2_mark l D g ad σ (2 : Int32) _ rfl) (zcwV 1 hts zgoodIn zw_796 zw_798 zw_21 zw_57 zw_799 rfl rfl hX2_mark ⟨Nat.le_of_ble_eq_true rfl, Nat.le_of_ble_eq_true rfl⟩) zO0_4 rfl hl.1 rfl (Nat.le_of_ble_eq_true rfl) dX2_toldByTrained_2 ⟨Nat.zero_le _, Nat.zero_le _⟩ (fun H locs hw => ?_)
  refine lv_aload_n hx hb dX2_toldByTrained_5 rfl (lv_at hl 0 rfl) ?_
  refine lv_iload_n hx hb dX2_toldByTrained_6 rfl (lv_at hl 1 rfl) ?_
  obtain ⟨r1, e2, h⟩ := zbind h
  refine z_cVi (As := [.int x1]) (rest := []) ⟨hx, hb, hml, hown, hts⟩ hK hw hA (kX2_toldByKin l D g ad (fX2_mark σ (2 : Int32)) x1 r1 e2) (zcwV 1 hts zgoodIn zw_804 zw_806 zw_23 zw_57 zw_807 rfl rfl hX2_toldByKin ⟨Nat.le_of_ble_eq_true rfl, Nat.le_of_ble_eq_true rfl⟩) zO0_4 rfl hl.1 rfl (Nat.le_of_ble_eq_true rfl) dX2_toldByTrained_7 ⟨Nat.zero_le _, Nat.zero_le _⟩ (fun H locs hw => ?_)
  refine lv_bipush (v := 100) hx hb dX2_toldByTrained_10 (by decide) ?_
  refine lv_iadd hx hb dX2_toldByTrained_12 ?_
  obtain rfl := Option.some.inj h
  exact hret _ _ _ _ hw rfl dX2_toldByTrained_13
theorem hX2_toldBySworn : yX2_toldBySworn.cls = RX2 ∧ yX2_toldBySworn.cls ≠ "java/lang/invoke/MethodHandle" ∧ yX2_toldBySworn.cls ≠ "java/lang/invoke/VarHandle" ∧ (parseMethodDescriptor yX2_toldBySworn.desc).map (fun d => d.parameters.length) = some 1 := by decide +kernel
set_option maxHeartbeats 4000000 in
set_option maxRecDepth 100000 in
theorem kX2_toldBySworn (l : Launch) (D : va_G) (g : zG) (ad : Nat → Nat) (σ : zSt) (x1 : Int32) (o : Int32 × zSt) (h : fX2_toldBySworn σ x1 = some o) : zMi l D g 0 ad yX2_toldBySworn (Cond.code yX2_toldBySworn cX2_toldBySworn 3 (some .int) :: zws) (zRm 3) [.ref (ad 4), .int x1] σ o.1 o.2 := by
  refine z_enter_i (by decide) (Nat.le_of_ble_eq_true rfl) ?_
  intro p e s m below meth c A ls Q C hw hl hret
  obtain ⟨hx, hb, hml, hown, hts, hK, hA⟩ := id C
  have hown : s.vm.findClass RX2 = some m.cls := hown
  have C : zCx p c cX2_toldBySworn s _ RX2 m 3 A s.heap D g := C
  have hl : lv_has ls 3 [(0, .ref (ad 4)), (1, .int x1)] := hl
  unfold fX2_toldBySworn at h
  refine lv_aload_n hx hb dX2_toldBySworn_0 rfl (lv_at hl 0 rfl) ?_
  refine lv_iconst (v := 3) hx hb dX2_toldBySworn_1 (by decide) ?_
  refine z_cVv (As := [.int (3 : Int32)]) (rest := []) ⟨hx, hb, hml, hown, hts⟩ hK hw hA (kX2_mark l D g ad σ (3 : Int32) _ rfl) (zcwV 1 hts zgoodIn zw_796 zw_798 zw_21 zw_57 zw_799 rfl rfl hX2_mark ⟨Nat.le_of_ble_eq_true rfl, Nat.le_of_ble_eq_true rfl⟩) zO0_4 rfl hl.1 rfl (Nat.le_of_ble_eq_true rfl) dX2_toldBySworn_2 ⟨Nat.zero_le _, Nat.zero_le _⟩ (fun H locs hw => ?_)
  refine lv_aload_n hx hb dX2_toldBySworn_5 rfl (lv_at hl 0 rfl) ?_
  refine lv_iload_n hx hb dX2_toldBySworn_6 rfl (lv_at hl 1 rfl) ?_
  obtain ⟨r1, e2, h⟩ := zbind h
  refine z_cVi (As := [.int x1]) (rest := []) ⟨hx, hb, hml, hown, hts⟩ hK hw hA (kX2_toldByTrained l D g ad (fX2_mark σ (3 : Int32)) x1 r1 e2) (zcwV 1 hts zgoodIn zw_800 zw_802 zw_22 zw_57 zw_803 rfl rfl hX2_toldByTrained ⟨Nat.le_of_ble_eq_true rfl, Nat.le_of_ble_eq_true rfl⟩) zO0_4 rfl hl.1 rfl (Nat.le_of_ble_eq_true rfl) dX2_toldBySworn_7 ⟨Nat.zero_le _, Nat.zero_le _⟩ (fun H locs hw => ?_)
  refine lv_istore_n (lv' := [(2, .int r1.1), (0, .ref (ad 4)), (1, .int x1)]) hx hb dX2_toldBySworn_10 rfl hl (by decide) rfl (fun ls hl => ?_)
  refine lv_iload_n hx hb dX2_toldBySworn_11 rfl (lv_at hl 0 rfl) ?_
  refine lv_aload_n hx hb dX2_toldBySworn_12 rfl (lv_at hl 1 rfl) ?_
  refine lv_iload_n hx hb dX2_toldBySworn_13 rfl (lv_at hl 2 rfl) ?_
  obtain ⟨r3, e4, h⟩ := zbind h
  refine z_cVi (As := [.int x1]) (rest := [.int r1.1]) ⟨hx, hb, hml, hown, hts⟩ hK hw hA (kX2_toldByKin l D g ad r1.2 x1 r3 e4) (zcwV 1 hts zgoodIn zw_804 zw_806 zw_23 zw_57 zw_807 rfl rfl hX2_toldByKin ⟨Nat.le_of_ble_eq_true rfl, Nat.le_of_ble_eq_true rfl⟩) zO0_4 rfl hl.1 rfl (Nat.le_of_ble_eq_true rfl) dX2_toldBySworn_14 ⟨Nat.zero_le _, Nat.zero_le _⟩ (fun H locs hw => ?_)
  refine lv_iadd hx hb dX2_toldBySworn_17 ?_
  obtain rfl := Option.some.inj h
  exact hret _ _ _ _ hw rfl dX2_toldBySworn_18
theorem hX2_told : yX2_told.cls = RX2 ∧ yX2_told.cls ≠ "java/lang/invoke/MethodHandle" ∧ yX2_told.cls ≠ "java/lang/invoke/VarHandle" ∧ (parseMethodDescriptor yX2_told.desc).map (fun d => d.parameters.length) = some 1 := by decide +kernel
set_option maxHeartbeats 4000000 in
set_option maxRecDepth 100000 in
theorem kX2_told (l : Launch) (D : va_G) (g : zG) (ad : Nat → Nat) (σ : zSt) (x1 : Int32) (o : Int32 × zSt) (h : fX2_told σ x1 = some o) : zMi l D g 0 ad yX2_told (Cond.code yX2_told cX2_told 2 (some .int) :: zws) (zRm 4) [.ref (ad 4), .int x1] σ o.1 o.2 := by
  refine z_enter_i (by decide) (Nat.le_of_ble_eq_true rfl) ?_
  intro p e s m below meth c A ls Q C hw hl hret
  obtain ⟨hx, hb, hml, hown, hts, hK, hA⟩ := id C
  have hown : s.vm.findClass RX2 = some m.cls := hown
  have C : zCx p c cX2_told s _ RX2 m 2 A s.heap D g := C
  have hl : lv_has ls 2 [(0, .ref (ad 4)), (1, .int x1)] := hl
  unfold fX2_told at h
  refine lv_aload_n hx hb dX2_told_0 rfl (lv_at hl 0 rfl) ?_
  refine z_getc hx hb hts zin_X2 hown hK hw zF0_4_0 (hts _ zw_156) dX2_told_1 ?_
  refine lv_iload_n hx hb dX2_told_4 rfl (lv_at hl 1 rfl) ?_
  obtain ⟨v1, e2, h⟩ := zbind h
  refine z_iald hx hb hK hw e2 dX2_told_5 ?_
  refine lv_iconst (v := 2) hx hb dX2_told_6 (by decide) ?_
  refine lv_icmp_ne (tgt := 18) hx hb dX2_told_7 (by decide) (fun t3 => ?_) (fun t3 => ?_)
  · rw [if_neg t3] at h
    refine lv_aload_n hx hb dX2_told_18 rfl (lv_at hl 0 rfl) ?_
    refine z_getc hx hb hts zin_X2 hown hK hw zF0_4_0 (hts _ zw_156) dX2_told_19 ?_
    refine lv_iload_n hx hb dX2_told_22 rfl (lv_at hl 1 rfl) ?_
    obtain ⟨v4, e5, h⟩ := zbind h
    refine z_iald hx hb hK hw e5 dX2_told_23 ?_
    refine lv_iconst (v := 1) hx hb dX2_told_24 (by decide) ?_
    refine lv_icmp_ne (tgt := 36) hx hb dX2_told_25 (by decide) (fun t6 => ?_) (fun t6 => ?_)
    · rw [if_neg t6] at h
      refine lv_aload_n hx hb dX2_told_36 rfl (lv_at hl 0 rfl) ?_
      refine lv_iload_n hx hb dX2_told_37 rfl (lv_at hl 1 rfl) ?_
      obtain ⟨r7, e8, h⟩ := zbind h
      refine z_cVi (As := [.int x1]) (rest := []) ⟨hx, hb, hml, hown, hts⟩ hK hw hA (kX2_toldByKin l D g ad σ x1 r7 e8) (zcwV 1 hts zgoodIn zw_804 zw_806 zw_23 zw_57 zw_807 rfl rfl hX2_toldByKin ⟨Nat.le_of_ble_eq_true rfl, Nat.le_of_ble_eq_true rfl⟩) zO0_4 rfl hl.1 rfl (Nat.le_of_ble_eq_true rfl) dX2_told_38 ⟨Nat.zero_le _, Nat.zero_le _⟩ (fun H locs hw => ?_)
      obtain rfl := Option.some.inj h
      exact hret _ _ _ _ hw rfl dX2_told_41
    · rw [if_pos t6] at h
      refine lv_aload_n hx hb dX2_told_28 rfl (lv_at hl 0 rfl) ?_
      refine lv_iload_n hx hb dX2_told_29 rfl (lv_at hl 1 rfl) ?_
      obtain ⟨r9, e10, h⟩ := zbind h
      refine z_cVi (As := [.int x1]) (rest := []) ⟨hx, hb, hml, hown, hts⟩ hK hw hA (kX2_toldByTrained l D g ad σ x1 r9 e10) (zcwV 1 hts zgoodIn zw_800 zw_802 zw_22 zw_57 zw_803 rfl rfl hX2_toldByTrained ⟨Nat.le_of_ble_eq_true rfl, Nat.le_of_ble_eq_true rfl⟩) zO0_4 rfl hl.1 rfl (Nat.le_of_ble_eq_true rfl) dX2_told_30 ⟨Nat.zero_le _, Nat.zero_le _⟩ (fun H locs hw => ?_)
      refine lv_goto (tgt := 41) hx hb dX2_told_33 (by decide) ?_
      obtain rfl := Option.some.inj h
      exact hret _ _ _ _ hw rfl dX2_told_41
  · rw [if_pos t3] at h
    refine lv_aload_n hx hb dX2_told_10 rfl (lv_at hl 0 rfl) ?_
    refine lv_iload_n hx hb dX2_told_11 rfl (lv_at hl 1 rfl) ?_
    obtain ⟨r11, e12, h⟩ := zbind h
    refine z_cVi (As := [.int x1]) (rest := []) ⟨hx, hb, hml, hown, hts⟩ hK hw hA (kX2_toldBySworn l D g ad σ x1 r11 e12) (zcwV 1 hts zgoodIn zw_792 zw_794 zw_20 zw_57 zw_795 rfl rfl hX2_toldBySworn ⟨Nat.le_of_ble_eq_true rfl, Nat.le_of_ble_eq_true rfl⟩) zO0_4 rfl hl.1 rfl (Nat.le_of_ble_eq_true rfl) dX2_told_12 ⟨Nat.zero_le _, Nat.zero_le _⟩ (fun H locs hw => ?_)
    refine lv_goto (tgt := 41) hx hb dX2_told_15 (by decide) ?_
    obtain rfl := Option.some.inj h
    exact hret _ _ _ _ hw rfl dX2_told_41
theorem hX2_paid : yX2_paid.cls = RX2 ∧ yX2_paid.cls ≠ "java/lang/invoke/MethodHandle" ∧ yX2_paid.cls ≠ "java/lang/invoke/VarHandle" ∧ (parseMethodDescriptor yX2_paid.desc).map (fun d => d.parameters.length) = some 1 := by decide +kernel
set_option maxHeartbeats 4000000 in
set_option maxRecDepth 100000 in
theorem kX2_paid (l : Launch) (D : va_G) (g : zG) (ad : Nat → Nat) (σ : zSt) (x1 : Int32) (o : Int32 × zSt) (h : fX2_paid σ x1 = some o) : zMi l D g 0 ad yX2_paid (Cond.code yX2_paid cX2_paid 2 (some .int) :: zws) (zRm 1) [.ref (ad 4), .int x1] σ o.1 o.2 := by
  refine z_enter_i (by decide) (Nat.le_of_ble_eq_true rfl) ?_
  intro p e s m below meth c A ls Q C hw hl hret
  obtain ⟨hx, hb, hml, hown, hts, hK, hA⟩ := id C
  have hown : s.vm.findClass RX2 = some m.cls := hown
  have C : zCx p c cX2_paid s _ RX2 m 2 A s.heap D g := C
  have hl : lv_has ls 2 [(0, .ref (ad 4)), (1, .int x1)] := hl
  unfold fX2_paid at h
  refine lv_aload_n hx hb dX2_paid_0 rfl (lv_at hl 0 rfl) ?_
  refine z_getc hx hb hts zin_X2 hown hK hw zF0_4_0 (hts _ zw_156) dX2_paid_1 ?_
  refine lv_iload_n hx hb dX2_paid_4 rfl (lv_at hl 1 rfl) ?_
  obtain ⟨v1, e2, h⟩ := zbind h
  refine z_iald hx hb hK hw e2 dX2_paid_5 ?_
  refine lv_iconst (v := 2) hx hb dX2_paid_6 (by decide) ?_
  refine lv_icmp_ne (tgt := 18) hx hb dX2_paid_7 (by decide) (fun t3 => ?_) (fun t3 => ?_)
  · rw [if_neg t3] at h
    refine lv_aload_n hx hb dX2_paid_18 rfl (lv_at hl 0 rfl) ?_
    refine lv_iconst (v := 4) hx hb dX2_paid_19 (by decide) ?_
    refine z_cVv (As := [.int (4 : Int32)]) (rest := []) ⟨hx, hb, hml, hown, hts⟩ hK hw hA (kX2_mark l D g ad σ (4 : Int32) _ rfl) (zcwV 1 hts zgoodIn zw_796 zw_798 zw_21 zw_57 zw_799 rfl rfl hX2_mark ⟨Nat.le_of_ble_eq_true rfl, Nat.le_of_ble_eq_true rfl⟩) zO0_4 rfl hl.1 rfl (Nat.le_of_ble_eq_true rfl) dX2_paid_20 ⟨Nat.zero_le _, Nat.zero_le _⟩ (fun H locs hw => ?_)
    refine lv_iload_n hx hb dX2_paid_23 rfl (lv_at hl 1 rfl) ?_
    obtain rfl := Option.some.inj h
    exact hret _ _ _ _ hw rfl dX2_paid_24
  · rw [if_pos t3] at h
    refine lv_aload_n hx hb dX2_paid_10 rfl (lv_at hl 0 rfl) ?_
    refine lv_iconst (v := 5) hx hb dX2_paid_11 (by decide) ?_
    refine z_cVv (As := [.int (5 : Int32)]) (rest := []) ⟨hx, hb, hml, hown, hts⟩ hK hw hA (kX2_mark l D g ad σ (5 : Int32) _ rfl) (zcwV 1 hts zgoodIn zw_796 zw_798 zw_21 zw_57 zw_799 rfl rfl hX2_mark ⟨Nat.le_of_ble_eq_true rfl, Nat.le_of_ble_eq_true rfl⟩) zO0_4 rfl hl.1 rfl (Nat.le_of_ble_eq_true rfl) dX2_paid_12 ⟨Nat.zero_le _, Nat.zero_le _⟩ (fun H locs hw => ?_)
    refine lv_bipush (v := 40) hx hb dX2_paid_15 (by decide) ?_
    obtain rfl := Option.some.inj h
    exact hret _ _ _ _ hw rfl dX2_paid_17
set_option maxHeartbeats 4000000 in
set_option maxRecDepth 100000 in
theorem wX3_through_2 {p : Program} {l : Launch} {e : Env} {s : State} {m : MethodId} {args : Array Value} {below : List Frame} {meth : Method} {c : Code} {A : Nat → Prop} {H0 : Heap} {Q : State → Prop} {D : va_G} {g : zG} {ad : Nat → Nat} (C : zCx p c cX3_through s args RX3 m 4 A H0 D g) (x1 : Int32) (x2 : Int32) (n : Nat) (a : (Int32 × zSt)) (b : (Int32 × zSt)) (h : zLp (fun a => bX3_through_2 x1 x2 a.1 a.2) n a = some b) (hk : ∀ (H : Heap) (locs : List Loc) (ls : Array Slot), zH D g 0 ad A H0 b.2 H locs → lv_has ls 4 [(0, .ref (ad 6)), (1, .int x1), (2, .int x2), (3, .int b.1)] → W p l e (zRm 2) s m args below meth c H locs 0 0 Q (F0 m 53 ls [])) : ∀ (H : Heap) (locs : List Loc) (ls : Array Slot), zH D g 0 ad A H0 a.2 H locs → lv_has ls 4 [(0, .ref (ad 6)), (1, .int x1), (2, .int x2), (3, .int a.1)] → W p l e (zRm 2) s m args below meth c H locs 0 0 Q (F0 m 2 ls []) := by
  obtain ⟨hx, hb, hml, hown, hts, hK, hA⟩ := id C
  refine zLp_walk (P := fun (a : (Int32 × zSt)) => ∀ (H : Heap) (locs : List Loc) (ls : Array Slot), zH D g 0 ad A H0 a.2 H locs → lv_has ls 4 [(0, .ref (ad 6)), (1, .int x1), (2, .int x2), (3, .int a.1)] → W p l e (zRm 2) s m args below meth c H locs 0 0 Q (F0 m 2 ls [])) (E := fun (b' : (Int32 × zSt)) => b' = b) ?_ n a b h rfl
  intro a r h hn he H locs ls hw hl
  obtain ⟨x3, σ⟩ := a
  have h : bX3_through_2 x1 x2 x3 σ = some r := h
  have hl : lv_has ls 4 [(0, .ref (ad 6)), (1, .int x1), (2, .int x2), (3, .int x3)] := hl
  have hw : zH D g 0 ad A H0 σ H locs := hw
  unfold bX3_through_2 at h
  refine lv_iload_n hx hb dX3_through_2 rfl (lv_at hl 3 rfl) ?_
  refine lv_aload_n hx hb dX3_through_3 rfl (lv_at hl 0 rfl) ?_
  refine z_getc hx hb hts zin_X3 hown hK hw zF0_6_0 (hts _ zw_201) dX3_through_4 ?_
  refine z_geti hx hb hts zin_X8 hown hK hw zF0_3_0 (hts _ zw_138) dX3_through_7 ?_
  refine lv_icmp_ge (tgt := 53) hx hb dX3_through_10 (by decide) (fun t1 => ?_) (fun t1 => ?_)
  · rw [if_pos t1] at h
    obtain rfl := Option.some.inj h
    obtain rfl := he _ rfl
    exact hk _ _ _ hw (lv_sub hl [0, 1, 2, 3] rfl)
  · rw [if_neg t1] at h
    refine lv_aload_n hx hb dX3_through_13 rfl (lv_at hl 0 rfl) ?_
    refine z_getc hx hb hts zin_X3 hown hK hw zF0_6_0 (hts _ zw_201) dX3_through_14 ?_
    refine lv_aload_n hx hb dX3_through_17 rfl (lv_at hl 0 rfl) ?_
    refine z_getc hx hb hts zin_X3 hown hK hw zF0_6_2 (hts _ zw_203) dX3_through_18 ?_
    refine lv_iload_n hx hb dX3_through_21 rfl (lv_at hl 3 rfl) ?_
    obtain ⟨q2, e3, h⟩ := zbind h
    refine z_aald hx hb hK hw e3 dX3_through_22 ?_
    refine lv_iconst (v := 0) hx hb dX3_through_23 (by decide) ?_
    refine lv_iload_n hx hb dX3_through_24 rfl (lv_at hl 3 rfl) ?_
    refine lv_iload_n hx hb dX3_through_25 rfl (lv_at hl 1 rfl) ?_
    refine lv_iload_n hx hb dX3_through_26 rfl (lv_at hl 2 rfl) ?_
    obtain ⟨r4, e5, h⟩ := zbind h
    refine z_cVv (As := [.ref (ad q2), .int (0 : Int32), .int x3, .int x1, .int x2]) (rest := []) ⟨hx, hb, hml, hown, hts⟩ hK hw hA (kX8_carry l D g ad σ q2 (0 : Int32) x3 x1 x2 r4 e5) (zcwV 5 hts zgoodIn zw_552 zw_490 zw_491 zw_56 zw_492 rfl rfl hX8_carry ⟨Nat.le_of_ble_eq_true rfl, Nat.le_of_ble_eq_true rfl⟩) zO0_3 rfl hl.1 rfl (Nat.le_of_ble_eq_true rfl) dX3_through_27 ⟨Nat.zero_le _, Nat.zero_le _⟩ (fun H locs hw => ?_)
    refine lv_aload_n hx hb dX3_through_30 rfl (lv_at hl 0 rfl) ?_
    refine z_getc hx hb hts zin_X3 hown hK hw zF0_6_0 (hts _ zw_201) dX3_through_31 ?_
    refine lv_aload_n hx hb dX3_through_34 rfl (lv_at hl 0 rfl) ?_
    refine z_getc hx hb hts zin_X3 hown hK hw zF0_6_3 (hts _ zw_204) dX3_through_35 ?_
    refine lv_iload_n hx hb dX3_through_38 rfl (lv_at hl 3 rfl) ?_
    obtain ⟨q6, e7, h⟩ := zbind h
    refine z_aald hx hb hK hw e7 dX3_through_39 ?_
    refine lv_iconst (v := 1) hx hb dX3_through_40 (by decide) ?_
    refine lv_iload_n hx hb dX3_through_41 rfl (lv_at hl 3 rfl) ?_
    refine lv_iload_n hx hb dX3_through_42 rfl (lv_at hl 1 rfl) ?_
    refine lv_iload_n hx hb dX3_through_43 rfl (lv_at hl 2 rfl) ?_
    obtain ⟨r8, e9, h⟩ := zbind h
    refine z_cVv (As := [.ref (ad q6), .int (1 : Int32), .int x3, .int x1, .int x2]) (rest := []) ⟨hx, hb, hml, hown, hts⟩ hK hw hA (kX8_carry l D g ad r4 q6 (1 : Int32) x3 x1 x2 r8 e9) (zcwV 5 hts zgoodIn zw_552 zw_490 zw_491 zw_56 zw_492 rfl rfl hX8_carry ⟨Nat.le_of_ble_eq_true rfl, Nat.le_of_ble_eq_true rfl⟩) zO0_3 rfl hl.1 rfl (Nat.le_of_ble_eq_true rfl) dX3_through_44 ⟨Nat.zero_le _, Nat.zero_le _⟩ (fun H locs hw => ?_)
    refine lv_iinc (v := x3 + 1) (lv' := [(3, .int (x3 + 1)), (0, .ref (ad 6)), (1, .int x1), (2, .int x2)]) hx hb dX3_through_47 hl (k := 3) rfl rfl (by decide) rfl (fun ls hl => ?_)
    refine lv_goto (tgt := 2) hx hb dX3_through_50 (by decide) ?_
    obtain rfl := Option.some.inj h
    exact hn _ rfl _ _ _ hw (lv_sub hl [1, 2, 3, 0] rfl)
theorem hX3_through : yX3_through.cls = RX3 ∧ yX3_through.cls ≠ "java/lang/invoke/MethodHandle" ∧ yX3_through.cls ≠ "java/lang/invoke/VarHandle" ∧ (parseMethodDescriptor yX3_through.desc).map (fun d => d.parameters.length) = some 2 := by decide +kernel
set_option maxHeartbeats 4000000 in
set_option maxRecDepth 100000 in
theorem kX3_through (l : Launch) (D : va_G) (g : zG) (ad : Nat → Nat) (σ : zSt) (x1 : Int32) (x2 : Int32) (o : zSt) (h : fX3_through σ x1 x2 = some o) : zMv l D g 0 ad yX3_through (Cond.code yX3_through cX3_through 4 (none : Option Jvm.ClassFile.FieldType) :: zws) (zRm 2) [.ref (ad 6), .int x1, .int x2] σ o := by
  refine z_enter_v (by decide) (Nat.le_of_ble_eq_true rfl) ?_
  intro p e s m below meth c A ls Q C hw hl hret
  obtain ⟨hx, hb, hml, hown, hts, hK, hA⟩ := id C
  have hown : s.vm.findClass RX3 = some m.cls := hown
  have C : zCx p c cX3_through s _ RX3 m 4 A s.heap D g := C
  have hl : lv_has ls 4 [(0, .ref (ad 6)), (1, .int x1), (2, .int x2)] := hl
  unfold fX3_through at h
  refine lv_iconst (v := 0) hx hb dX3_through_0 (by decide) ?_
  refine lv_istore_n (lv' := [(3, .int (0 : Int32)), (0, .ref (ad 6)), (1, .int x1), (2, .int x2)]) hx hb dX3_through_1 rfl hl (by decide) rfl (fun ls hl => ?_)
  obtain ⟨b1, e2, h⟩ := zbind h
  refine wX3_through_2 C x1 x2 zFU ((0 : Int32), σ) b1 e2 (fun H locs ls hw hl => ?_) _ _ _ hw (lv_sub hl [1, 2, 3, 0] rfl)
  have hl : lv_has ls 4 [(0, .ref (ad 6)), (1, .int x1), (2, .int x2), (3, .int b1.1)] := hl
  obtain rfl := Option.some.inj h
  exact hret _ _ _ _ hw dX3_through_53
theorem hX3_passing : yX3_passing.cls = RX3 ∧ yX3_passing.cls ≠ "java/lang/invoke/MethodHandle" ∧ yX3_passing.cls ≠ "java/lang/invoke/VarHandle" ∧ (parseMethodDescriptor yX3_passing.desc).map (fun d => d.parameters.length) = some 4 := by decide +kernel
set_option maxHeartbeats 4000000 in
set_option maxRecDepth 100000 in
theorem kX3_passing (l : Launch) (D : va_G) (g : zG) (ad : Nat → Nat) (σ : zSt) (x1 : Int32) (x2 : Int32) (x3 : Int32) (x4 : Int32) (o : Int32) (h : fX3_passing σ x1 x2 x3 x4 = some o) : zMi l D g 0 ad yX3_passing (Cond.code yX3_passing cX3_passing 5 (some .int) :: zws) (zRm 0) [.ref (ad 6), .int x1, .int x2, .int x3, .int x4] σ o σ := by
  refine z_enter_i (by decide) (Nat.le_of_ble_eq_true rfl) ?_
  intro p e s m below meth c A ls Q C hw hl hret
  obtain ⟨hx, hb, hml, hown, hts, hK, hA⟩ := id C
  have hown : s.vm.findClass RX3 = some m.cls := hown
  have C : zCx p c cX3_passing s _ RX3 m 5 A s.heap D g := C
  have hl : lv_has ls 5 [(0, .ref (ad 6)), (1, .int x1), (2, .int x2), (3, .int x3), (4, .int x4)] := hl
  unfold fX3_passing at h
  refine lv_aload_n hx hb dX3_passing_0 rfl (lv_at hl 0 rfl) ?_
  refine z_getc hx hb hts zin_X3 hown hK hw zF0_6_2 (hts _ zw_203) dX3_passing_1 ?_
  refine lv_iload_n hx hb dX3_passing_4 rfl (lv_at hl 1 rfl) ?_
  obtain ⟨q1, e2, h⟩ := zbind h
  refine z_aald hx hb hK hw e2 dX3_passing_5 ?_
  refine lv_iload_n hx hb dX3_passing_6 rfl (lv_at hl 2 rfl) ?_
  obtain ⟨v3, e4, h⟩ := zbind h
  refine z_iald hx hb hK hw e4 dX3_passing_7 ?_
  refine lv_aload_n hx hb dX3_passing_8 rfl (lv_at hl 0 rfl) ?_
  refine z_getc hx hb hts zin_X3 hown hK hw zF0_6_1 (hts _ zw_202) dX3_passing_9 ?_
  refine z_getc hx hb hts zin_X9 hown hK hw zF0_5_0 (hts _ zw_181) dX3_passing_12 ?_
  refine lv_iload_n hx hb dX3_passing_15 rfl (lv_at hl 2 rfl) ?_
  obtain ⟨q5, e6, h⟩ := zbind h
  refine z_aald hx hb hK hw e6 dX3_passing_16 ?_
  refine lv_iload_n hx hb dX3_passing_17 rfl (lv_at hl 3 rfl) ?_
  obtain ⟨v7, e8, h⟩ := zbind h
  refine z_iald hx hb hK hw e8 dX3_passing_18 ?_
  refine lv_imul hx hb dX3_passing_19 ?_
  refine lv_aload_n hx hb dX3_passing_20 rfl (lv_at hl 0 rfl) ?_
  refine z_getc hx hb hts zin_X3 hown hK hw zF0_6_3 (hts _ zw_204) dX3_passing_21 ?_
  refine lv_iload_n hx hb dX3_passing_24 rfl (lv_at hl 3 rfl) ?_
  obtain ⟨q9, e10, h⟩ := zbind h
  refine z_aald hx hb hK hw e10 dX3_passing_25 ?_
  refine lv_iload hx hb dX3_passing_26 (lv_at hl 4 rfl) ?_
  obtain ⟨v11, e12, h⟩ := zbind h
  refine z_iald hx hb hK hw e12 dX3_passing_28 ?_
  refine lv_imul hx hb dX3_passing_29 ?_
  obtain rfl := Option.some.inj h
  exact hret _ _ _ _ hw rfl dX3_passing_30
