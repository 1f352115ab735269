/-! walks: X11_carryOn, X11_hands, X11_readWitness, X11_witness, X11_answered, X11_answers -/
set_option maxHeartbeats 4000000 in
set_option maxRecDepth 100000 in
theorem wX11_carryOn_2 {p : Program} {l : Launch} {e : Env} {s : State} {m : MethodId} {args : Array Value} {below : List Frame} {meth : Method} {c : Code} {A : Nat → Prop} {H0 : Heap} {Q : State → Prop} {D : va_G} {g : zG} {ad : Nat → Nat} (C : zCx p c cX11_carryOn s args RX11 m 5 A H0 D g) (x1 : Int32) (x2 : Int32) (n : Nat) (a : (Int32 × zSt)) (b : (Int32 × zSt)) (h : zLp (fun a => bX11_carryOn_2 x1 x2 a.1 a.2) n a = some b) (hk : ∀ (H : Heap) (locs : List Loc) (ls : Array Slot), zH D g 1 ad A H0 b.2 H locs → lv_has ls 5 [(0, .ref (ad 0)), (1, .int x1), (2, .int x2), (3, .int b.1)] → W p l e (zRm 4) s m args below meth c H locs 0 0 Q (F0 m 23 ls [])) : ∀ (H : Heap) (locs : List Loc) (ls : Array Slot), zH D g 1 ad A H0 a.2 H locs → lv_has ls 5 [(0, .ref (ad 0)), (1, .int x1), (2, .int x2), (3, .int a.1)] → W p l e (zRm 4) s m args below meth c H locs 0 0 Q (F0 m 2 ls []) := by
  obtain ⟨hx, hb, hml, hown, hts, hK, hA⟩ := id C
  refine zLp_walk (P := fun (a : (Int32 × zSt)) => ∀ (H : Heap) (locs : List Loc) (ls : Array Slot), zH D g 1 ad A H0 a.2 H locs → lv_has ls 5 [(0, .ref (ad 0)), (1, .int x1), (2, .int x2), (3, .int a.1)] → W p l e (zRm 4) s m args below meth c H locs 0 0 Q (F0 m 2 ls [])) (E := fun (b' : (Int32 × zSt)) => b' = b) ?_ n a b h rfl
  intro a r h hn he H locs ls hw hl
  obtain ⟨x3, σ⟩ := a
  have h : bX11_carryOn_2 x1 x2 x3 σ = some r := h
  have hl : lv_has ls 5 [(0, .ref (ad 0)), (1, .int x1), (2, .int x2), (3, .int x3)] := hl
  have hw : zH D g 1 ad A H0 σ H locs := hw
  unfold bX11_carryOn_2 at h
  refine lv_iload_n hx hb dX11_carryOn_2 rfl (lv_at hl 3 rfl) ?_
  refine lv_aload_n hx hb dX11_carryOn_3 rfl (lv_at hl 0 rfl) ?_
  refine z_geti hx hb hts zin_X11 hown hK hw zF1_0_5 (hts _ zw_843) dX11_carryOn_4 ?_
  refine lv_icmp_ge (tgt := 23) hx hb dX11_carryOn_7 (by decide) (fun t1 => ?_) (fun t1 => ?_)
  · rw [if_pos t1] at h
    obtain rfl := Option.some.inj h
    obtain rfl := he _ rfl
    exact hk _ _ _ hw (lv_sub hl [0, 1, 2, 3] rfl)
  · rw [if_neg t1] at h
    refine lv_aload_n hx hb dX11_carryOn_10 rfl (lv_at hl 0 rfl) ?_
    refine z_getc hx hb hts zin_X11 hown hK hw zF1_0_15 (hts _ zw_853) dX11_carryOn_11 ?_
    refine lv_iload_n hx hb dX11_carryOn_14 rfl (lv_at hl 3 rfl) ?_
    refine lv_lconst (v := 0) hx hb dX11_carryOn_15 (by decide) ?_
    obtain ⟨s2, e3, h⟩ := zbind h
    refine z_last hx hb hK hw e3 dX11_carryOn_16 (fun H locs hw => ?_)
    refine lv_iinc (v := x3 + 1) (lv' := [(3, .int (x3 + 1)), (0, .ref (ad 0)), (1, .int x1), (2, .int x2)]) hx hb dX11_carryOn_17 hl (k := 3) rfl rfl (by decide) rfl (fun ls hl => ?_)
    refine lv_goto (tgt := 2) hx hb dX11_carryOn_20 (by decide) ?_
    obtain rfl := Option.some.inj h
    exact hn _ rfl _ _ _ hw (lv_sub hl [1, 2, 3, 0] rfl)
set_option maxHeartbeats 4000000 in
set_option maxRecDepth 100000 in
theorem wX11_carryOn_36 {p : Program} {l : Launch} {e : Env} {s : State} {m : MethodId} {args : Array Value} {below : List Frame} {meth : Method} {c : Code} {A : Nat → Prop} {H0 : Heap} {Q : State → Prop} {D : va_G} {g : zG} {ad : Nat → Nat} (C : zCx p c cX11_carryOn s args RX11 m 5 A H0 D g) (x1 : Int32) (x2 : Int32) (x3 : Int32) (n : Nat) (a : (Int32 × zSt)) (b : (Int32 × zSt)) (h : zLp (fun a => bX11_carryOn_36 x1 x2 x3 a.1 a.2) n a = some b) (hk : ∀ (H : Heap) (locs : List Loc) (ls : Array Slot), zH D g 1 ad A H0 b.2 H locs → lv_has ls 5 [(0, .ref (ad 0)), (1, .int x1), (2, .int x2), (3, .int x3), (4, .int b.1)] → W p l e (zRm 4) s m args below meth c H locs 0 0 Q (F0 m 78 ls [])) : ∀ (H : Heap) (locs : List Loc) (ls : Array Slot), zH D g 1 ad A H0 a.2 H locs → lv_has ls 5 [(0, .ref (ad 0)), (1, .int x1), (2, .int x2), (3, .int x3), (4, .int a.1)] → W p l e (zRm 4) s m args below meth c H locs 0 0 Q (F0 m 36 ls []) := by
  obtain ⟨hx, hb, hml, hown, hts, hK, hA⟩ := id C
  refine zLp_walk (P := fun (a : (Int32 × zSt)) => ∀ (H : Heap) (locs : List Loc) (ls : Array Slot), zH D g 1 ad A H0 a.2 H locs → lv_has ls 5 [(0, .ref (ad 0)), (1, .int x1), (2, .int x2), (3, .int x3), (4, .int a.1)] → W p l e (zRm 4) s m args below meth c H locs 0 0 Q (F0 m 36 ls [])) (E := fun (b' : (Int32 × zSt)) => b' = b) ?_ n a b h rfl
  intro a r h hn he H locs ls hw hl
  obtain ⟨x4, σ⟩ := a
  have h : bX11_carryOn_36 x1 x2 x3 x4 σ = some r := h
  have hl : lv_has ls 5 [(0, .ref (ad 0)), (1, .int x1), (2, .int x2), (3, .int x3), (4, .int x4)] := hl
  have hw : zH D g 1 ad A H0 σ H locs := hw
  unfold bX11_carryOn_36 at h
  refine lv_iload hx hb dX11_carryOn_36 (lv_at hl 4 rfl) ?_
  refine lv_aload_n hx hb dX11_carryOn_38 rfl (lv_at hl 0 rfl) ?_
  refine z_geti hx hb hts zin_X11 hown hK hw zF1_0_5 (hts _ zw_843) dX11_carryOn_39 ?_
  refine lv_icmp_ge (tgt := 78) hx hb dX11_carryOn_42 (by decide) (fun t1 => ?_) (fun t1 => ?_)
  · rw [if_pos t1] at h
    obtain rfl := Option.some.inj h
    obtain rfl := he _ rfl
    exact hk _ _ _ hw (lv_sub hl [0, 1, 2, 3, 4] rfl)
  · rw [if_neg t1] at h
    refine lv_aload_n hx hb dX11_carryOn_45 rfl (lv_at hl 0 rfl) ?_
    refine z_getc hx hb hts zin_X11 hown hK hw zF1_0_15 (hts _ zw_853) dX11_carryOn_46 ?_
    refine lv_iload hx hb dX11_carryOn_49 (lv_at hl 4 rfl) ?_
    refine lv_dup2_11 hx hb dX11_carryOn_51 rfl rfl ?_
    obtain ⟨v2, e3, h⟩ := zbind h
    refine z_lald hx hb hK hw e3 dX11_carryOn_52 ?_
    refine lv_aload_n hx hb dX11_carryOn_53 rfl (lv_at hl 0 rfl) ?_
    refine z_getc hx hb hts zin_X11 hown hK hw zF1_0_14 (hts _ zw_852) dX11_carryOn_54 ?_
    refine lv_iload_n hx hb dX11_carryOn_57 rfl (lv_at hl 3 rfl) ?_
    obtain ⟨v4, e5, h⟩ := zbind h
    refine z_lald hx hb hK hw e5 dX11_carryOn_58 ?_
    refine lv_aload_n hx hb dX11_carryOn_59 rfl (lv_at hl 0 rfl) ?_
    refine lv_iload_n hx hb dX11_carryOn_60 rfl (lv_at hl 1 rfl) ?_
    refine lv_iload_n hx hb dX11_carryOn_61 rfl (lv_at hl 2 rfl) ?_
    refine lv_iload_n hx hb dX11_carryOn_62 rfl (lv_at hl 3 rfl) ?_
    refine lv_iload hx hb dX11_carryOn_63 (lv_at hl 4 rfl) ?_
    obtain ⟨r6, e7, h⟩ := zbind h
    refine z_cVi (As := [.int x1, .int x2, .int x3, .int x4]) (rest := [.long v4, .long v2, .int x4, .ref (ad 9)]) ⟨hx, hb, hml, hown, hts⟩ hK hw hA (kX11_carried l D g ad σ x1 x2 x3 x4 r6 e7) (zcwV 4 hts zgoodIn zw_1013 zw_1015 zw_34 zw_64 zw_1016 rfl rfl hX11_carried ⟨Nat.le_of_ble_eq_true rfl, Nat.le_of_ble_eq_true rfl⟩) zO1_0 rfl hl.1 rfl (Nat.le_of_ble_eq_true rfl) dX11_carryOn_65 ⟨Nat.zero_le _, Nat.zero_le _⟩ (fun H locs hw => ?_)
    refine lv_i2l hx hb dX11_carryOn_68 rfl ?_
    refine lv_lmul hx hb dX11_carryOn_69 ?_
    refine lv_ladd hx hb dX11_carryOn_70 ?_
    obtain ⟨s8, e9, h⟩ := zbind h
    refine z_last hx hb hK hw e9 dX11_carryOn_71 (fun H locs hw => ?_)
    refine lv_iinc (v := x4 + 1) (lv' := [(4, .int (x4 + 1)), (0, .ref (ad 0)), (1, .int x1), (2, .int x2), (3, .int x3)]) hx hb dX11_carryOn_72 hl (k := 4) rfl rfl (by decide) rfl (fun ls hl => ?_)
    refine lv_goto (tgt := 36) hx hb dX11_carryOn_75 (by decide) ?_
    obtain rfl := Option.some.inj h
    exact hn _ rfl _ _ _ hw (lv_sub hl [1, 2, 3, 4, 0] rfl)
set_option maxHeartbeats 4000000 in
set_option maxRecDepth 100000 in
theorem wX11_carryOn_25 {p : Program} {l : Launch} {e : Env} {s : State} {m : MethodId} {args : Array Value} {below : List Frame} {meth : Method} {c : Code} {A : Nat → Prop} {H0 : Heap} {Q : State → Prop} {D : va_G} {g : zG} {ad : Nat → Nat} (C : zCx p c cX11_carryOn s args RX11 m 5 A H0 D g) (x1 : Int32) (x2 : Int32) (n : Nat) (a : (Int32 × zSt)) (b : (Int32 × zSt)) (h : zLp (fun a => bX11_carryOn_25 x1 x2 a.1 a.2) n a = some b) (hk : ∀ (H : Heap) (locs : List Loc) (ls : Array Slot), zH D g 1 ad A H0 b.2 H locs → lv_has ls 5 [(0, .ref (ad 0)), (1, .int x1), (2, .int x2), (3, .int b.1)] → W p l e (zRm 4) s m args below meth c H locs 0 0 Q (F0 m 84 ls [])) : ∀ (H : Heap) (locs : List Loc) (ls : Array Slot), zH D g 1 ad A H0 a.2 H locs → lv_has ls 5 [(0, .ref (ad 0)), (1, .int x1), (2, .int x2), (3, .int a.1)] → W p l e (zRm 4) s m args below meth c H locs 0 0 Q (F0 m 25 ls []) := by
  obtain ⟨hx, hb, hml, hown, hts, hK, hA⟩ := id C
  refine zLp_walk (P := fun (a : (Int32 × zSt)) => ∀ (H : Heap) (locs : List Loc) (ls : Array Slot), zH D g 1 ad A H0 a.2 H locs → lv_has ls 5 [(0, .ref (ad 0)), (1, .int x1), (2, .int x2), (3, .int a.1)] → W p l e (zRm 4) s m args below meth c H locs 0 0 Q (F0 m 25 ls [])) (E := fun (b' : (Int32 × zSt)) => b' = b) ?_ n a b h rfl
  intro a r h hn he H locs ls hw hl
  obtain ⟨x3, σ⟩ := a
  have h : bX11_carryOn_25 x1 x2 x3 σ = some r := h
  have hl : lv_has ls 5 [(0, .ref (ad 0)), (1, .int x1), (2, .int x2), (3, .int x3)] := hl
  have hw : zH D g 1 ad A H0 σ H locs := hw
  unfold bX11_carryOn_25 at h
  refine lv_iload_n hx hb dX11_carryOn_25 rfl (lv_at hl 3 rfl) ?_
  refine lv_aload_n hx hb dX11_carryOn_26 rfl (lv_at hl 0 rfl) ?_
  refine z_geti hx hb hts zin_X11 hown hK hw zF1_0_5 (hts _ zw_843) dX11_carryOn_27 ?_
  refine lv_icmp_ge (tgt := 84) hx hb dX11_carryOn_30 (by decide) (fun t1 => ?_) (fun t1 => ?_)
  · rw [if_pos t1] at h
    obtain rfl := Option.some.inj h
    obtain rfl := he _ rfl
    exact hk _ _ _ hw (lv_sub hl [0, 1, 2, 3] rfl)
  · rw [if_neg t1] at h
    refine lv_iconst (v := 0) hx hb dX11_carryOn_33 (by decide) ?_
    refine lv_istore (lv' := [(4, .int (0 : Int32)), (0, .ref (ad 0)), (1, .int x1), (2, .int x2), (3, .int x3)]) hx hb dX11_carryOn_34 hl (by decide) rfl (fun ls hl => ?_)
    obtain ⟨b2, e3, h⟩ := zbind h
    refine wX11_carryOn_36 C x1 x2 x3 zFU ((0 : Int32), σ) b2 e3 (fun H locs ls hw hl => ?_) _ _ _ hw (lv_sub hl [1, 2, 3, 4, 0] rfl)
    have hl : lv_has ls 5 [(0, .ref (ad 0)), (1, .int x1), (2, .int x2), (3, .int x3), (4, .int b2.1)] := hl
    refine lv_iinc (v := x3 + 1) (lv' := [(3, .int (x3 + 1)), (0, .ref (ad 0)), (1, .int x1), (2, .int x2), (4, .int b2.1)]) hx hb dX11_carryOn_78 hl (k := 3) rfl rfl (by decide) rfl (fun ls hl => ?_)
    refine lv_goto (tgt := 25) hx hb dX11_carryOn_81 (by decide) ?_
    obtain rfl := Option.some.inj h
    exact hn _ rfl _ _ _ hw (lv_sub hl [1, 2, 3, 0] rfl)
set_option maxHeartbeats 4000000 in
set_option maxRecDepth 100000 in
theorem wX11_carryOn_86 {p : Program} {l : Launch} {e : Env} {s : State} {m : MethodId} {args : Array Value} {below : List Frame} {meth : Method} {c : Code} {A : Nat → Prop} {H0 : Heap} {Q : State → Prop} {D : va_G} {g : zG} {ad : Nat → Nat} (C : zCx p c cX11_carryOn s args RX11 m 5 A H0 D g)  (n : Nat) (a : (Int32 × zSt)) (b : (Int32 × zSt)) (h : zLp (fun a => bX11_carryOn_86 a.1 a.2) n a = some b) (hk : ∀ (H : Heap) (locs : List Loc) (ls : Array Slot), zH D g 1 ad A H0 b.2 H locs → lv_has ls 5 [(0, .ref (ad 0)), (3, .int b.1)] → W p l e (zRm 4) s m args below meth c H locs 0 0 Q (F0 m 112 ls [])) : ∀ (H : Heap) (locs : List Loc) (ls : Array Slot), zH D g 1 ad A H0 a.2 H locs → lv_has ls 5 [(0, .ref (ad 0)), (3, .int a.1)] → W p l e (zRm 4) s m args below meth c H locs 0 0 Q (F0 m 86 ls []) := by
  obtain ⟨hx, hb, hml, hown, hts, hK, hA⟩ := id C
  refine zLp_walk (P := fun (a : (Int32 × zSt)) => ∀ (H : Heap) (locs : List Loc) (ls : Array Slot), zH D g 1 ad A H0 a.2 H locs → lv_has ls 5 [(0, .ref (ad 0)), (3, .int a.1)] → W p l e (zRm 4) s m args below meth c H locs 0 0 Q (F0 m 86 ls [])) (E := fun (b' : (Int32 × zSt)) => b' = b) ?_ n a b h rfl
  intro a r h hn he H locs ls hw hl
  obtain ⟨x3, σ⟩ := a
  have h : bX11_carryOn_86 x3 σ = some r := h
  have hl : lv_has ls 5 [(0, .ref (ad 0)), (3, .int x3)] := hl
  have hw : zH D g 1 ad A H0 σ H locs := hw
  unfold bX11_carryOn_86 at h
  refine lv_iload_n hx hb dX11_carryOn_86 rfl (lv_at hl 1 rfl) ?_
  refine lv_aload_n hx hb dX11_carryOn_87 rfl (lv_at hl 0 rfl) ?_
  refine z_geti hx hb hts zin_X11 hown hK hw zF1_0_5 (hts _ zw_843) dX11_carryOn_88 ?_
  refine lv_icmp_ge (tgt := 112) hx hb dX11_carryOn_91 (by decide) (fun t1 => ?_) (fun t1 => ?_)
  · rw [if_pos t1] at h
    obtain rfl := Option.some.inj h
    obtain rfl := he _ rfl
    exact hk _ _ _ hw (lv_sub hl [0, 1] rfl)
  · rw [if_neg t1] at h
    refine lv_aload_n hx hb dX11_carryOn_94 rfl (lv_at hl 0 rfl) ?_
    refine z_getc hx hb hts zin_X11 hown hK hw zF1_0_14 (hts _ zw_852) dX11_carryOn_95 ?_
    refine lv_iload_n hx hb dX11_carryOn_98 rfl (lv_at hl 1 rfl) ?_
    refine lv_aload_n hx hb dX11_carryOn_99 rfl (lv_at hl 0 rfl) ?_
    refine z_getc hx hb hts zin_X11 hown hK hw zF1_0_15 (hts _ zw_853) dX11_carryOn_100 ?_
    refine lv_iload_n hx hb dX11_carryOn_103 rfl (lv_at hl 1 rfl) ?_
    obtain ⟨v2, e3, h⟩ := zbind h
    refine z_lald hx hb hK hw e3 dX11_carryOn_104 ?_
    obtain ⟨s4, e5, h⟩ := zbind h
    refine z_last hx hb hK hw e5 dX11_carryOn_105 (fun H locs hw => ?_)
    refine lv_iinc (v := x3 + 1) (lv' := [(3, .int (x3 + 1)), (0, .ref (ad 0))]) hx hb dX11_carryOn_106 hl (k := 1) rfl rfl (by decide) rfl (fun ls hl => ?_)
    refine lv_goto (tgt := 86) hx hb dX11_carryOn_109 (by decide) ?_
    obtain rfl := Option.some.inj h
    exact hn _ rfl _ _ _ hw (lv_sub hl [1, 0] rfl)
theorem hX11_carryOn : yX11_carryOn.cls = RX11 ∧ yX11_carryOn.cls ≠ "java/lang/invoke/MethodHandle" ∧ yX11_carryOn.cls ≠ "java/lang/invoke/VarHandle" ∧ (parseMethodDescriptor yX11_carryOn.desc).map (fun d => d.parameters.length) = some 2 := by decide +kernel
set_option maxHeartbeats 4000000 in
set_option maxRecDepth 100000 in
theorem kX11_carryOn (l : Launch) (D : va_G) (g : zG) (ad : Nat → Nat) (σ : zSt) (x1 : Int32) (x2 : Int32) (o : zSt) (h : fX11_carryOn σ x1 x2 = some o) : zMv l D g 1 ad yX11_carryOn (Cond.code yX11_carryOn cX11_carryOn 5 (none : Option Jvm.ClassFile.FieldType) :: zws) (zRm 4) [.ref (ad 0), .int x1, .int x2] σ o := by
  refine z_enter_v (by decide) (Nat.le_of_ble_eq_true rfl) ?_
  intro p e s m below meth c A ls Q C hw hl hret
  obtain ⟨hx, hb, hml, hown, hts, hK, hA⟩ := id C
  have hown : s.vm.findClass RX11 = some m.cls := hown
  have C : zCx p c cX11_carryOn s _ RX11 m 5 A s.heap D g := C
  have hl : lv_has ls 5 [(0, .ref (ad 0)), (1, .int x1), (2, .int x2)] := hl
  unfold fX11_carryOn at h
  refine lv_iconst (v := 0) hx hb dX11_carryOn_0 (by decide) ?_
  refine lv_istore_n (lv' := [(3, .int (0 : Int32)), (0, .ref (ad 0)), (1, .int x1), (2, .int x2)]) hx hb dX11_carryOn_1 rfl hl (by decide) rfl (fun ls hl => ?_)
  obtain ⟨b1, e2, h⟩ := zbind h
  refine wX11_carryOn_2 C x1 x2 zFU ((0 : Int32), σ) b1 e2 (fun H locs ls hw hl => ?_) _ _ _ hw (lv_sub hl [1, 2, 3, 0] rfl)
  have hl : lv_has ls 5 [(0, .ref (ad 0)), (1, .int x1), (2, .int x2), (3, .int b1.1)] := hl
  refine lv_iconst (v := 0) hx hb dX11_carryOn_23 (by decide) ?_
  refine lv_istore_n (lv' := [(3, .int (0 : Int32)), (0, .ref (ad 0)), (1, .int x1), (2, .int x2)]) hx hb dX11_carryOn_24 rfl hl (by decide) rfl (fun ls hl => ?_)
  obtain ⟨b3, e4, h⟩ := zbind h
  refine wX11_carryOn_25 C x1 x2 zFU ((0 : Int32), b1.2) b3 e4 (fun H locs ls hw hl => ?_) _ _ _ hw (lv_sub hl [1, 2, 3, 0] rfl)
  have hl : lv_has ls 5 [(0, .ref (ad 0)), (1, .int x1), (2, .int x2), (3, .int b3.1)] := hl
  refine lv_iconst (v := 0) hx hb dX11_carryOn_84 (by decide) ?_
  refine lv_istore_n (lv' := [(3, .int (0 : Int32)), (0, .ref (ad 0)), (1, .int x1), (2, .int x2)]) hx hb dX11_carryOn_85 rfl hl (by decide) rfl (fun ls hl => ?_)
  obtain ⟨b5, e6, h⟩ := zbind h
  refine wX11_carryOn_86 C  zFU ((0 : Int32), b3.2) b5 e6 (fun H locs ls hw hl => ?_) _ _ _ hw (lv_sub hl [1, 0] rfl)
  have hl : lv_has ls 5 [(0, .ref (ad 0)), (3, .int b5.1)] := hl
  obtain rfl := Option.some.inj h
  exact hret _ _ _ _ hw dX11_carryOn_112
set_option maxHeartbeats 4000000 in
set_option maxRecDepth 100000 in
theorem wX11_hands_102 {p : Program} {l : Launch} {e : Env} {s : State} {m : MethodId} {args : Array Value} {below : List Frame} {meth : Method} {c : Code} {A : Nat → Prop} {H0 : Heap} {Q : State → Prop} {D : va_G} {g : zG} {ad : Nat → Nat} (C : zCx p c cX11_hands s args RX11 m 17 A H0 D g) (σ : zSt) (x1 : Int32) (x2 : Int32) (x3 : Int32) (x7 : Int32) (x8 : Int32) (x10 : Int32) (n : Nat) (a : Int32) (b : (Int32 ⊕ (Int64 × zSt))) (h : zLp (fun a => bX11_hands_102 σ x1 x2 x3 x7 x8 x10 a) n a = some b) (hk1 : ∀ a, b = .inl a → ∀ (H : Heap) (locs : List Loc) (ls : Array Slot), zH D g 1 ad A H0 σ H locs → lv_has ls 17 [(0, .ref (ad 0)), (1, .int x1), (2, .int x2), (3, .int x3), (7, .int x7), (8, .int x8), (10, .int x10), (11, .int a)] → W p l e (zRm 5) s m args below meth c H locs 0 0 Q (F0 m 136 ls [])) (hk2 : ∀ r, b = .inr r → ∀ (H : Heap) (locs : List Loc) (pc : Nat) (ls : Array Slot), zH D g 1 ad A H0 r.2 H locs → decode cX11_hands pc = .ok (.lreturn, 1) → W p l e (zRm 5) s m args below meth c H locs 0 0 Q (F0 m pc ls [.long r.1])) : ∀ (H : Heap) (locs : List Loc) (ls : Array Slot), zH D g 1 ad A H0 σ H locs → lv_has ls 17 [(0, .ref (ad 0)), (1, .int x1), (2, .int x2), (3, .int x3), (7, .int x7), (8, .int x8), (10, .int x10), (11, .int a)] → W p l e (zRm 5) s m args below meth c H locs 0 0 Q (F0 m 102 ls []) := by
  obtain ⟨hx, hb, hml, hown, hts, hK, hA⟩ := id C
  refine zLp_walk (P := fun (a : Int32) => ∀ (H : Heap) (locs : List Loc) (ls : Array Slot), zH D g 1 ad A H0 σ H locs → lv_has ls 17 [(0, .ref (ad 0)), (1, .int x1), (2, .int x2), (3, .int x3), (7, .int x7), (8, .int x8), (10, .int x10), (11, .int a)] → W p l e (zRm 5) s m args below meth c H locs 0 0 Q (F0 m 102 ls [])) (E := fun (b' : (Int32 ⊕ (Int64 × zSt))) => b' = b) ?_ n a b h rfl
  intro a r h hn he H locs ls hw hl
  obtain ⟨x11, rfl⟩ : ∃ z, z = a := ⟨_, rfl⟩
  have h : bX11_hands_102 σ x1 x2 x3 x7 x8 x10 x11 = some r := h
  have hl : lv_has ls 17 [(0, .ref (ad 0)), (1, .int x1), (2, .int x2), (3, .int x3), (7, .int x7), (8, .int x8), (10, .int x10), (11, .int x11)] := hl
  have hw : zH D g 1 ad A H0 σ H locs := hw
  unfold bX11_hands_102 at h
  refine lv_iload hx hb dX11_hands_102 (lv_at hl 7 rfl) ?_
  refine lv_iload hx hb dX11_hands_104 (lv_at hl 4 rfl) ?_
  refine lv_icmp_ge (tgt := 136) hx hb dX11_hands_106 (by decide) (fun t1 => ?_) (fun t1 => ?_)
  · rw [if_pos t1] at h
    obtain rfl := Option.some.inj h
    obtain rfl := he _ rfl
    exact hk1 _ rfl _ _ _ hw (lv_sub hl [0, 1, 2, 3, 4, 5, 6, 7] rfl)
  · rw [if_neg t1] at h
    refine lv_aload_n hx hb dX11_hands_109 rfl (lv_at hl 0 rfl) ?_
    refine lv_aload_n hx hb dX11_hands_110 rfl (lv_at hl 0 rfl) ?_
    refine z_getc hx hb hts zin_X11 hown hK hw zF1_0_4 (hts _ zw_842) dX11_hands_111 ?_
    refine lv_iload hx hb dX11_hands_114 (lv_at hl 6 rfl) ?_
    refine lv_iload hx hb dX11_hands_116 (lv_at hl 7 rfl) ?_
    refine lv_iadd hx hb dX11_hands_118 ?_
    obtain ⟨v2, e3, h⟩ := zbind h
    refine z_iald hx hb hK hw e3 dX11_hands_119 ?_
    refine z_cVi (As := [.int v2]) (rest := []) ⟨hx, hb, hml, hown, hts⟩ hK hw hA (kX11_isInterpreter l D g ad σ v2 _ rfl) (zcwV 1 hts zgoodIn zw_1001 zw_1003 zw_33 zw_64 zw_1004 rfl rfl hX11_isInterpreter ⟨Nat.le_of_ble_eq_true rfl, Nat.le_of_ble_eq_true rfl⟩) zO1_0 rfl hl.1 rfl (Nat.le_of_ble_eq_true rfl) dX11_hands_120 ⟨Nat.zero_le _, Nat.zero_le _⟩ (fun H locs hw => ?_)
    refine lv_if_ne (tgt := 130) hx hb dX11_hands_123 (by decide) (fun t4 => ?_) (fun t4 => ?_)
    · rw [if_neg t4] at h
      refine lv_iinc (v := x11 + 1) (lv' := [(11, .int (x11 + 1)), (0, .ref (ad 0)), (1, .int x1), (2, .int x2), (3, .int x3), (7, .int x7), (8, .int x8), (10, .int x10)]) hx hb dX11_hands_130 hl (k := 7) rfl rfl (by decide) rfl (fun ls hl => ?_)
      refine lv_goto (tgt := 102) hx hb dX11_hands_133 (by decide) ?_
      obtain rfl := Option.some.inj h
      exact hn _ rfl _ _ _ hw (lv_sub hl [1, 2, 3, 4, 5, 6, 7, 0] rfl)
    · rw [if_pos t4] at h
      refine lv_ldc2 hx hb hown (hts _ zw_1029) dX11_hands_126 ?_
      obtain rfl := Option.some.inj h
      obtain rfl := he _ rfl
      exact hk2 _ rfl _ _ _ _ hw dX11_hands_129
set_option maxHeartbeats 4000000 in
set_option maxRecDepth 100000 in
theorem wX11_hands_151 {p : Program} {l : Launch} {e : Env} {s : State} {m : MethodId} {args : Array Value} {below : List Frame} {meth : Method} {c : Code} {A : Nat → Prop} {H0 : Heap} {Q : State → Prop} {D : va_G} {g : zG} {ad : Nat → Nat} (C : zCx p c cX11_hands s args RX11 m 17 A H0 D g) (x1 : Int32) (x2 : Int32) (x3 : Int32) (x7 : Int32) (x8 : Int32) (x10 : Int32) (n : Nat) (a : (Int32 × zSt)) (b : (Int32 × zSt)) (h : zLp (fun a => bX11_hands_151 x1 x2 x3 x7 x8 x10 a.1 a.2) n a = some b) (hk : ∀ (H : Heap) (locs : List Loc) (ls : Array Slot), zH D g 1 ad A H0 b.2 H locs → lv_has ls 17 [(0, .ref (ad 0)), (1, .int x1), (2, .int x2), (3, .int x3), (7, .int x7), (8, .int x8), (10, .int x10), (11, .int b.1)] → W p l e (zRm 5) s m args below meth c H locs 0 0 Q (F0 m 184 ls [])) : ∀ (H : Heap) (locs : List Loc) (ls : Array Slot), zH D g 1 ad A H0 a.2 H locs → lv_has ls 17 [(0, .ref (ad 0)), (1, .int x1), (2, .int x2), (3, .int x3), (7, .int x7), (8, .int x8), (10, .int x10), (11, .int a.1)] → W p l e (zRm 5) s m args below meth c H locs 0 0 Q (F0 m 151 ls []) := by
  obtain ⟨hx, hb, hml, hown, hts, hK, hA⟩ := id C
  refine zLp_walk (P := fun (a : (Int32 × zSt)) => ∀ (H : Heap) (locs : List Loc) (ls : Array Slot), zH D g 1 ad A H0 a.2 H locs → lv_has ls 17 [(0, .ref (ad 0)), (1, .int x1), (2, .int x2), (3, .int x3), (7, .int x7), (8, .int x8), (10, .int x10), (11, .int a.1)] → W p l e (zRm 5) s m args below meth c H locs 0 0 Q (F0 m 151 ls [])) (E := fun (b' : (Int32 × zSt)) => b' = b) ?_ n a b h rfl
  intro a r h hn he H locs ls hw hl
  obtain ⟨x11, σ⟩ := a
  have h : bX11_hands_151 x1 x2 x3 x7 x8 x10 x11 σ = some r := h
  have hl : lv_has ls 17 [(0, .ref (ad 0)), (1, .int x1), (2, .int x2), (3, .int x3), (7, .int x7), (8, .int x8), (10, .int x10), (11, .int x11)] := hl
  have hw : zH D g 1 ad A H0 σ H locs := hw
  unfold bX11_hands_151 at h
  refine lv_iload hx hb dX11_hands_151 (lv_at hl 7 rfl) ?_
  refine lv_aload_n hx hb dX11_hands_153 rfl (lv_at hl 0 rfl) ?_
  refine z_geti hx hb hts zin_X11 hown hK hw zF1_0_5 (hts _ zw_843) dX11_hands_154 ?_
  refine lv_icmp_ge (tgt := 184) hx hb dX11_hands_157 (by decide) (fun t1 => ?_) (fun t1 => ?_)
  · rw [if_pos t1] at h
    obtain rfl := Option.some.inj h
    obtain rfl := he _ rfl
    exact hk _ _ _ hw (lv_sub hl [0, 1, 2, 3, 4, 5, 6, 7] rfl)
  · rw [if_neg t1] at h
    refine lv_aload_n hx hb dX11_hands_160 rfl (lv_at hl 0 rfl) ?_
    refine z_getc hx hb hts zin_X11 hown hK hw zF1_0_14 (hts _ zw_852) dX11_hands_161 ?_
    refine lv_iload hx hb dX11_hands_164 (lv_at hl 7 rfl) ?_
    refine lv_iload hx hb dX11_hands_166 (lv_at hl 7 rfl) ?_
    refine lv_iload_n hx hb dX11_hands_168 rfl (lv_at hl 2 rfl) ?_
    refine lv_icmp_ne (tgt := 176) hx hb dX11_hands_169 (by decide) (fun t2 => ?_) (fun t2 => ?_)
    · rw [if_neg t2] at h
      refine lv_lconst (v := 0) hx hb dX11_hands_176 (by decide) ?_
      obtain ⟨s3, e4, h⟩ := zbind h
      refine z_last hx hb hK hw e4 dX11_hands_177 (fun H locs hw => ?_)
      refine lv_iinc (v := x11 + 1) (lv' := [(11, .int (x11 + 1)), (0, .ref (ad 0)), (1, .int x1), (2, .int x2), (3, .int x3), (7, .int x7), (8, .int x8), (10, .int x10)]) hx hb dX11_hands_178 hl (k := 7) rfl rfl (by decide) rfl (fun ls hl => ?_)
      refine lv_goto (tgt := 151) hx hb dX11_hands_181 (by decide) ?_
      obtain rfl := Option.some.inj h
      exact hn _ rfl _ _ _ hw (lv_sub hl [1, 2, 3, 4, 5, 6, 7, 0] rfl)
    · rw [if_pos t2] at h
      refine lv_lconst (v := 1) hx hb dX11_hands_172 (by decide) ?_
      refine lv_goto (tgt := 177) hx hb dX11_hands_173 (by decide) ?_
      obtain ⟨s5, e6, h⟩ := zbind h
      refine z_last hx hb hK hw e6 dX11_hands_177 (fun H locs hw => ?_)
      refine lv_iinc (v := x11 + 1) (lv' := [(11, .int (x11 + 1)), (0, .ref (ad 0)), (1, .int x1), (2, .int x2), (3, .int x3), (7, .int x7), (8, .int x8), (10, .int x10)]) hx hb dX11_hands_178 hl (k := 7) rfl rfl (by decide) rfl (fun ls hl => ?_)
      refine lv_goto (tgt := 151) hx hb dX11_hands_181 (by decide) ?_
      obtain rfl := Option.some.inj h
      exact hn _ rfl _ _ _ hw (lv_sub hl [1, 2, 3, 4, 5, 6, 7, 0] rfl)
set_option maxHeartbeats 4000000 in
set_option maxRecDepth 100000 in
theorem wX11_hands_193 {p : Program} {l : Launch} {e : Env} {s : State} {m : MethodId} {args : Array Value} {below : List Frame} {meth : Method} {c : Code} {A : Nat → Prop} {H0 : Heap} {Q : State → Prop} {D : va_G} {g : zG} {ad : Nat → Nat} (C : zCx p c cX11_hands s args RX11 m 17 A H0 D g) (x3 : Int32) (x7 : Int32) (x8 : Int32) (x10 : Int32) (n : Nat) (a : (Int64 × Int32 × Int32 × zSt)) (b : (Int64 × Int32 × Int32 × zSt)) (h : zLp (fun a => bX11_hands_193 x3 x7 x8 x10 a.1 a.2.1 a.2.2.1 a.2.2.2) n a = some b) (hk : ∀ (H : Heap) (locs : List Loc) (ls : Array Slot), zH D g 1 ad A H0 b.2.2.2 H locs → lv_has ls 17 [(0, .ref (ad 0)), (3, .int x3), (7, .int x7), (8, .int x8), (10, .int x10), (11, .long b.1), (13, .int b.2.1), (14, .int b.2.2.1)] → W p l e (zRm 5) s m args below meth c H locs 0 0 Q (F0 m 236 ls [])) : ∀ (H : Heap) (locs : List Loc) (ls : Array Slot), zH D g 1 ad A H0 a.2.2.2 H locs → lv_has ls 17 [(0, .ref (ad 0)), (3, .int x3), (7, .int x7), (8, .int x8), (10, .int x10), (11, .long a.1), (13, .int a.2.1), (14, .int a.2.2.1)] → W p l e (zRm 5) s m args below meth c H locs 0 0 Q (F0 m 193 ls []) := by
  obtain ⟨hx, hb, hml, hown, hts, hK, hA⟩ := id C
  refine zLp_walk (P := fun (a : (Int64 × Int32 × Int32 × zSt)) => ∀ (H : Heap) (locs : List Loc) (ls : Array Slot), zH D g 1 ad A H0 a.2.2.2 H locs → lv_has ls 17 [(0, .ref (ad 0)), (3, .int x3), (7, .int x7), (8, .int x8), (10, .int x10), (11, .long a.1), (13, .int a.2.1), (14, .int a.2.2.1)] → W p l e (zRm 5) s m args below meth c H locs 0 0 Q (F0 m 193 ls [])) (E := fun (b' : (Int64 × Int32 × Int32 × zSt)) => b' = b) ?_ n a b h rfl
  intro a r h hn he H locs ls hw hl
  obtain ⟨x11, x13, x14, σ⟩ := a
  have h : bX11_hands_193 x3 x7 x8 x10 x11 x13 x14 σ = some r := h
  have hl : lv_has ls 17 [(0, .ref (ad 0)), (3, .int x3), (7, .int x7), (8, .int x8), (10, .int x10), (11, .long x11), (13, .int x13), (14, .int x14)] := hl
  have hw : zH D g 1 ad A H0 σ H locs := hw
  unfold bX11_hands_193 at h
  refine lv_iload hx hb dX11_hands_193 (lv_at hl 7 rfl) ?_
  refine lv_iload hx hb dX11_hands_195 (lv_at hl 2 rfl) ?_
  refine lv_icmp_ge (tgt := 236) hx hb dX11_hands_197 (by decide) (fun t1 => ?_) (fun t1 => ?_)
  · rw [if_pos t1] at h
    obtain rfl := Option.some.inj h
    obtain rfl := he _ rfl
    exact hk _ _ _ hw (lv_sub hl [0, 1, 2, 3, 4, 5, 6, 7] rfl)
  · rw [if_neg t1] at h
    refine lv_aload_n hx hb dX11_hands_200 rfl (lv_at hl 0 rfl) ?_
    refine lv_aload_n hx hb dX11_hands_201 rfl (lv_at hl 0 rfl) ?_
    refine z_getc hx hb hts zin_X11 hown hK hw zF1_0_4 (hts _ zw_842) dX11_hands_202 ?_
    refine lv_iload hx hb dX11_hands_205 (lv_at hl 4 rfl) ?_
    refine lv_iload hx hb dX11_hands_207 (lv_at hl 7 rfl) ?_
    refine lv_iadd hx hb dX11_hands_209 ?_
    obtain ⟨v2, e3, h⟩ := zbind h
    refine z_iald hx hb hK hw e3 dX11_hands_210 ?_
    refine lv_iload hx hb dX11_hands_211 (lv_at hl 6 rfl) ?_
    obtain ⟨r4, e5, h⟩ := zbind h
    refine z_cVv (As := [.int v2, .int x13]) (rest := []) ⟨hx, hb, hml, hown, hts⟩ hK hw hA (kX11_carryOn l D g ad σ v2 x13 r4 e5) (zcwV 2 hts zgoodIn zw_1037 zw_1039 zw_37 zw_64 zw_1040 rfl rfl hX11_carryOn ⟨Nat.le_of_ble_eq_true rfl, Nat.le_of_ble_eq_true rfl⟩) zO1_0 rfl hl.1 rfl (Nat.le_of_ble_eq_true rfl) dX11_hands_213 ⟨Nat.zero_le _, Nat.zero_le _⟩ (fun H locs hw => ?_)
    refine lv_iconst (v := 1) hx hb dX11_hands_216 (by decide) ?_
    refine lv_iload hx hb dX11_hands_217 (lv_at hl 6 rfl) ?_
    refine lv_isub hx hb dX11_hands_219 ?_
    refine lv_istore (lv' := [(13, .int ((1 : Int32) - x13)), (0, .ref (ad 0)), (3, .int x3), (7, .int x7), (8, .int x8), (10, .int x10), (11, .long x11), (14, .int x14)]) hx hb dX11_hands_220 hl (by decide) rfl (fun ls hl => ?_)
    refine lv_lload hx hb dX11_hands_222 (lv_at hl 6 rfl) ?_
    refine lv_ldc2 hx hb hown (hts _ zw_1041) dX11_hands_224 ?_
    refine lv_lmul hx hb dX11_hands_227 ?_
    refine lv_lstore (lv' := [(11, .long (x11 * (144 : Int64))), (13, .int ((1 : Int32) - x13)), (0, .ref (ad 0)), (3, .int x3), (7, .int x7), (8, .int x8), (10, .int x10), (14, .int x14)]) hx hb dX11_hands_228 hl (by decide) rfl (fun ls hl => ?_)
    refine lv_iinc (v := x14 + 1) (lv' := [(14, .int (x14 + 1)), (11, .long (x11 * (144 : Int64))), (13, .int ((1 : Int32) - x13)), (0, .ref (ad 0)), (3, .int x3), (7, .int x7), (8, .int x8), (10, .int x10)]) hx hb dX11_hands_230 hl (k := 7) rfl rfl (by decide) rfl (fun ls hl => ?_)
    refine lv_goto (tgt := 193) hx hb dX11_hands_233 (by decide) ?_
    obtain rfl := Option.some.inj h
    exact hn _ rfl _ _ _ hw (lv_sub hl [3, 4, 5, 6, 7, 1, 2, 0] rfl)
set_option maxHeartbeats 4000000 in
set_option maxRecDepth 100000 in
theorem wX11_hands_243 {p : Program} {l : Launch} {e : Env} {s : State} {m : MethodId} {args : Array Value} {below : List Frame} {meth : Method} {c : Code} {A : Nat → Prop} {H0 : Heap} {Q : State → Prop} {D : va_G} {g : zG} {ad : Nat → Nat} (C : zCx p c cX11_hands s args RX11 m 17 A H0 D g) (σ : zSt) (x3 : Int32) (x8 : Int32) (x11 : Int64) (n : Nat) (a : (Int64 × Int32)) (b : (Int64 × Int32)) (h : zLp (fun a => bX11_hands_243 σ x3 x8 x11 a.1 a.2) n a = some b) (hk : ∀ (H : Heap) (locs : List Loc) (ls : Array Slot), zH D g 1 ad A H0 σ H locs → lv_has ls 17 [(0, .ref (ad 0)), (3, .int x3), (8, .int x8), (11, .long x11), (14, .long b.1), (16, .int b.2)] → W p l e (zRm 5) s m args below meth c H locs 0 0 Q (F0 m 270 ls [])) : ∀ (H : Heap) (locs : List Loc) (ls : Array Slot), zH D g 1 ad A H0 σ H locs → lv_has ls 17 [(0, .ref (ad 0)), (3, .int x3), (8, .int x8), (11, .long x11), (14, .long a.1), (16, .int a.2)] → W p l e (zRm 5) s m args below meth c H locs 0 0 Q (F0 m 243 ls []) := by
  obtain ⟨hx, hb, hml, hown, hts, hK, hA⟩ := id C
  refine zLp_walk (P := fun (a : (Int64 × Int32)) => ∀ (H : Heap) (locs : List Loc) (ls : Array Slot), zH D g 1 ad A H0 σ H locs → lv_has ls 17 [(0, .ref (ad 0)), (3, .int x3), (8, .int x8), (11, .long x11), (14, .long a.1), (16, .int a.2)] → W p l e (zRm 5) s m args below meth c H locs 0 0 Q (F0 m 243 ls [])) (E := fun (b' : (Int64 × Int32)) => b' = b) ?_ n a b h rfl
  intro a r h hn he H locs ls hw hl
  obtain ⟨x14, x16⟩ := a
  have h : bX11_hands_243 σ x3 x8 x11 x14 x16 = some r := h
  have hl : lv_has ls 17 [(0, .ref (ad 0)), (3, .int x3), (8, .int x8), (11, .long x11), (14, .long x14), (16, .int x16)] := hl
  have hw : zH D g 1 ad A H0 σ H locs := hw
  unfold bX11_hands_243 at h
  refine lv_iload hx hb dX11_hands_243 (lv_at hl 5 rfl) ?_
  refine lv_aload_n hx hb dX11_hands_245 rfl (lv_at hl 0 rfl) ?_
  refine z_geti hx hb hts zin_X11 hown hK hw zF1_0_5 (hts _ zw_843) dX11_hands_246 ?_
  refine lv_icmp_ge (tgt := 270) hx hb dX11_hands_249 (by decide) (fun t1 => ?_) (fun t1 => ?_)
  · rw [if_pos t1] at h
    obtain rfl := Option.some.inj h
    obtain rfl := he _ rfl
    exact hk _ _ _ hw (lv_sub hl [0, 1, 2, 3, 4, 5] rfl)
  · rw [if_neg t1] at h
    refine lv_lload hx hb dX11_hands_252 (lv_at hl 4 rfl) ?_
    refine lv_aload_n hx hb dX11_hands_254 rfl (lv_at hl 0 rfl) ?_
    refine z_getc hx hb hts zin_X11 hown hK hw zF1_0_14 (hts _ zw_852) dX11_hands_255 ?_
    refine lv_iload hx hb dX11_hands_258 (lv_at hl 5 rfl) ?_
    obtain ⟨v2, e3, h⟩ := zbind h
    refine z_lald hx hb hK hw e3 dX11_hands_260 ?_
    refine lv_lsub hx hb dX11_hands_261 ?_
    refine lv_lstore (lv' := [(14, .long (x14 - v2)), (0, .ref (ad 0)), (3, .int x3), (8, .int x8), (11, .long x11), (16, .int x16)]) hx hb dX11_hands_262 hl (by decide) rfl (fun ls hl => ?_)
    refine lv_iinc (v := x16 + 1) (lv' := [(16, .int (x16 + 1)), (14, .long (x14 - v2)), (0, .ref (ad 0)), (3, .int x3), (8, .int x8), (11, .long x11)]) hx hb dX11_hands_264 hl (k := 5) rfl rfl (by decide) rfl (fun ls hl => ?_)
    refine lv_goto (tgt := 243) hx hb dX11_hands_267 (by decide) ?_
    obtain rfl := Option.some.inj h
    exact hn _ rfl _ _ _ hw (lv_sub hl [2, 3, 4, 5, 1, 0] rfl)
theorem hX11_hands : yX11_hands.cls = RX11 ∧ yX11_hands.cls ≠ "java/lang/invoke/MethodHandle" ∧ yX11_hands.cls ≠ "java/lang/invoke/VarHandle" ∧ (parseMethodDescriptor yX11_hands.desc).map (fun d => d.parameters.length) = some 8 := by decide +kernel
set_option maxHeartbeats 4000000 in
set_option maxRecDepth 100000 in
theorem kX11_hands (l : Launch) (D : va_G) (g : zG) (ad : Nat → Nat) (σ : zSt) (x1 : Int32) (x2 : Int32) (x3 : Int32) (x4 : Int32) (x5 : Int32) (x6 : Int32) (x7 : Int32) (x8 : Int32) (o : Int64 × zSt) (h : fX11_hands σ x1 x2 x3 x4 x5 x6 x7 x8 = some o) : zMl l D g 1 ad yX11_hands (Cond.code yX11_hands cX11_hands 17 (some .long) :: zws) (zRm 5) [.ref (ad 0), .int x1, .int x2, .int x3, .int x4, .int x5, .int x6, .int x7, .int x8] σ o.1 o.2 := by
  refine z_enter_l (by decide) (Nat.le_of_ble_eq_true rfl) ?_
  intro p e s m below meth c A ls Q C hw hl hret
  obtain ⟨hx, hb, hml, hown, hts, hK, hA⟩ := id C
  have hown : s.vm.findClass RX11 = some m.cls := hown
  have C : zCx p c cX11_hands s _ RX11 m 17 A s.heap D g := C
  have hl : lv_has ls 17 [(0, .ref (ad 0)), (1, .int x1), (2, .int x2), (3, .int x3), (4, .int x4), (5, .int x5), (6, .int x6), (7, .int x7), (8, .int x8)] := hl
  unfold fX11_hands at h
  refine lv_aload_n hx hb dX11_hands_0 rfl (lv_at hl 0 rfl) ?_
  refine lv_iconst (v := 0) hx hb dX11_hands_1 (by decide) ?_
  refine z_puti hx hb hts zin_X11 tyX11_ok nmX11 hown hK hw zF1_0_0 (hts _ zw_838) zY1_0_0 dX11_hands_2 (fun H locs hw => ?_)
  refine lv_aload_n hx hb dX11_hands_5 rfl (lv_at hl 0 rfl) ?_
  refine lv_iload_n hx hb dX11_hands_6 rfl (lv_at hl 2 rfl) ?_
  refine z_cVi (As := [.int x2]) (rest := []) ⟨hx, hb, hml, hown, hts⟩ hK hw hA (kX11_isWord l D g ad (zwI σ 0 0 (0 : Int32)) x2 _ rfl) (zcwV 1 hts zgoodIn zw_964 zw_966 zw_30 zw_64 zw_967 rfl rfl hX11_isWord ⟨Nat.le_of_ble_eq_true rfl, Nat.le_of_ble_eq_true rfl⟩) zO1_0 rfl hl.1 rfl (Nat.le_of_ble_eq_true rfl) dX11_hands_7 ⟨Nat.zero_le _, Nat.zero_le _⟩ (fun H locs hw => ?_)
  refine lv_if_eq (tgt := 44) hx hb dX11_hands_10 (by decide) (fun t1 => ?_) (fun t1 => ?_)
  · rw [if_pos t1] at h
    refine lv_ldc2 hx hb hown (hts _ zw_1029) dX11_hands_44 ?_
    obtain rfl := Option.some.inj h
    exact hret _ _ _ _ hw dX11_hands_47
  · rw [if_neg t1] at h
    refine lv_aload_n hx hb dX11_hands_13 rfl (lv_at hl 0 rfl) ?_
    refine lv_iload_n hx hb dX11_hands_14 rfl (lv_at hl 3 rfl) ?_
    refine z_cVi (As := [.int x3]) (rest := []) ⟨hx, hb, hml, hown, hts⟩ hK hw hA (kX11_isEnd l D g ad (zwI σ 0 0 (0 : Int32)) x3 _ rfl) (zcwV 1 hts zgoodIn zw_968 zw_970 zw_31 zw_64 zw_971 rfl rfl hX11_isEnd ⟨Nat.le_of_ble_eq_true rfl, Nat.le_of_ble_eq_true rfl⟩) zO1_0 rfl hl.1 rfl (Nat.le_of_ble_eq_true rfl) dX11_hands_15 ⟨Nat.zero_le _, Nat.zero_le _⟩ (fun H locs hw => ?_)
    refine lv_if_eq (tgt := 44) hx hb dX11_hands_18 (by decide) (fun t2 => ?_) (fun t2 => ?_)
    · rw [if_pos t2] at h
      refine lv_ldc2 hx hb hown (hts _ zw_1029) dX11_hands_44 ?_
      obtain rfl := Option.some.inj h
      exact hret _ _ _ _ hw dX11_hands_47
    · rw [if_neg t2] at h
      refine lv_iload hx hb dX11_hands_21 (lv_at hl 4 rfl) ?_
      refine z_cSi (As := [.int x4]) (rest := []) ⟨hx, hb, hml, hown, hts⟩ hK hw hA (kX11_isSheet l D g ad (zwI σ 0 0 (0 : Int32)) x4 _ rfl) (zcwS 1 hts zgoodIn zw_927 zw_928 zw_64 zw_929 rfl rfl hX11_isSheet ⟨Nat.le_of_ble_eq_true rfl, Nat.le_of_ble_eq_true rfl⟩) rfl hl.1 rfl (Nat.le_of_ble_eq_true rfl) dX11_hands_23 ⟨Nat.zero_le _, Nat.zero_le _⟩ (fun H locs hw => ?_)
      refine lv_if_eq (tgt := 44) hx hb dX11_hands_26 (by decide) (fun t3 => ?_) (fun t3 => ?_)
      · rw [if_pos t3] at h
        refine lv_ldc2 hx hb hown (hts _ zw_1029) dX11_hands_44 ?_
        obtain rfl := Option.some.inj h
        exact hret _ _ _ _ hw dX11_hands_47
      · rw [if_neg t3] at h
        refine lv_iload_n hx hb dX11_hands_29 rfl (lv_at hl 1 rfl) ?_
        refine z_cSi (As := [.int x1]) (rest := []) ⟨hx, hb, hml, hown, hts⟩ hK hw hA (kX11_isWay l D g ad (zwI σ 0 0 (0 : Int32)) x1 _ rfl) (zcwS 1 hts zgoodIn zw_972 zw_973 zw_64 zw_974 rfl rfl hX11_isWay ⟨Nat.le_of_ble_eq_true rfl, Nat.le_of_ble_eq_true rfl⟩) rfl hl.1 rfl (Nat.le_of_ble_eq_true rfl) dX11_hands_30 ⟨Nat.zero_le _, Nat.zero_le _⟩ (fun H locs hw => ?_)
        refine lv_if_eq (tgt := 44) hx hb dX11_hands_33 (by decide) (fun t4 => ?_) (fun t4 => ?_)
        · rw [if_pos t4] at h
          refine lv_ldc2 hx hb hown (hts _ zw_1029) dX11_hands_44 ?_
          obtain rfl := Option.some.inj h
          exact hret _ _ _ _ hw dX11_hands_47
        · rw [if_neg t4] at h
          refine lv_iload hx hb dX11_hands_36 (lv_at hl 5 rfl) ?_
          refine z_cSi (As := [.int x5]) (rest := []) ⟨hx, hb, hml, hown, hts⟩ hK hw hA (kX11_isSort l D g ad (zwI σ 0 0 (0 : Int32)) x5 _ rfl) (zcwS 1 hts zgoodIn zw_933 zw_934 zw_64 zw_935 rfl rfl hX11_isSort ⟨Nat.le_of_ble_eq_true rfl, Nat.le_of_ble_eq_true rfl⟩) rfl hl.1 rfl (Nat.le_of_ble_eq_true rfl) dX11_hands_38 ⟨Nat.zero_le _, Nat.zero_le _⟩ (fun H locs hw => ?_)
          refine lv_if_ne (tgt := 48) hx hb dX11_hands_41 (by decide) (fun t5 => ?_) (fun t5 => ?_)
          · rw [if_neg t5] at h
            refine lv_aload_n hx hb dX11_hands_48 rfl (lv_at hl 0 rfl) ?_
            refine lv_iload hx hb dX11_hands_49 (lv_at hl 4 rfl) ?_
            refine lv_iload hx hb dX11_hands_51 (lv_at hl 5 rfl) ?_
            refine lv_iload hx hb dX11_hands_53 (lv_at hl 6 rfl) ?_
            refine lv_iload hx hb dX11_hands_55 (lv_at hl 7 rfl) ?_
            obtain ⟨r6, e7, h⟩ := zbind h
            refine z_cVi (As := [.int x4, .int x5, .int x6, .int x7]) (rest := []) ⟨hx, hb, hml, hown, hts⟩ hK hw hA (kX11_against l D g ad (zwI σ 0 0 (0 : Int32)) x4 x5 x6 x7 r6 e7) (zcwV 4 hts zgoodIn zw_936 zw_938 zw_24 zw_64 zw_939 rfl rfl hX11_against ⟨Nat.le_of_ble_eq_true rfl, Nat.le_of_ble_eq_true rfl⟩) zO1_0 rfl hl.1 rfl (Nat.le_of_ble_eq_true rfl) dX11_hands_57 ⟨Nat.zero_le _, Nat.zero_le _⟩ (fun H locs hw => ?_)
            refine lv_istore (lv' := [(9, .int r6), (0, .ref (ad 0)), (1, .int x1), (2, .int x2), (3, .int x3), (4, .int x4), (5, .int x5), (6, .int x6), (7, .int x7), (8, .int x8)]) hx hb dX11_hands_60 hl (by decide) rfl (fun ls hl => ?_)
            refine lv_iload hx hb dX11_hands_62 (lv_at hl 0 rfl) ?_
            refine lv_if_eq (tgt := 74) hx hb dX11_hands_64 (by decide) (fun t8 => ?_) (fun t8 => ?_)
            · rw [if_pos t8] at h
              refine lv_bipush (v := 120) hx hb dX11_hands_74 (by decide) ?_
              refine lv_iload hx hb dX11_hands_76 (lv_at hl 5 rfl) ?_
              refine lv_imul hx hb dX11_hands_78 ?_
              refine lv_iload hx hb dX11_hands_79 (lv_at hl 7 rfl) ?_
              refine lv_iadd hx hb dX11_hands_81 ?_
              refine lv_istore (lv' := [(10, .int (((120 : Int32) * x4) + x6)), (9, .int r6), (0, .ref (ad 0)), (1, .int x1), (2, .int x2), (3, .int x3), (4, .int x4), (5, .int x5), (6, .int x6), (7, .int x7), (8, .int x8)]) hx hb dX11_hands_82 hl (by decide) rfl (fun ls hl => ?_)
              refine lv_iload hx hb dX11_hands_84 (lv_at hl 9 rfl) ?_
              refine lv_iconst (v := 1) hx hb dX11_hands_86 (by decide) ?_
              refine lv_bipush (v := 8) hx hb dX11_hands_87 (by decide) ?_
              refine z_cSi (As := [.int x7, .int (1 : Int32), .int (8 : Int32)]) (rest := []) ⟨hx, hb, hml, hown, hts⟩ hK hw hA (kX11_within l D g ad (zwI σ 0 0 (0 : Int32)) x7 (1 : Int32) (8 : Int32) _ rfl) (zcwS 3 hts zgoodIn zw_930 zw_931 zw_64 zw_932 rfl rfl hX11_within ⟨Nat.le_of_ble_eq_true rfl, Nat.le_of_ble_eq_true rfl⟩) rfl hl.1 rfl (Nat.le_of_ble_eq_true rfl) dX11_hands_89 ⟨Nat.zero_le _, Nat.zero_le _⟩ (fun H locs hw => ?_)
              refine lv_if_ne (tgt := 99) hx hb dX11_hands_92 (by decide) (fun t9 => ?_) (fun t9 => ?_)
              · rw [if_neg t9] at h
                refine lv_iconst (v := 0) hx hb dX11_hands_99 (by decide) ?_
                refine lv_istore (lv' := [(11, .int (0 : Int32)), (10, .int (((120 : Int32) * x4) + x6)), (9, .int r6), (0, .ref (ad 0)), (1, .int x1), (2, .int x2), (3, .int x3), (4, .int x4), (5, .int x5), (6, .int x6), (7, .int x7), (8, .int x8)]) hx hb dX11_hands_100 hl (by decide) rfl (fun ls hl => ?_)
                obtain ⟨b10, e11, h⟩ := zbind h
                refine wX11_hands_102 C (zwI σ 0 0 (0 : Int32)) x1 x2 x3 x7 x8 (((120 : Int32) * x4) + x6) zFU (0 : Int32) b10 e11 (fun a12 hb H locs ls hw hl => ?_) (fun r13 hb H locs pc ls hw hd => ?_) _ _ _ hw (lv_sub hl [3, 4, 5, 6, 10, 11, 1, 0] rfl)
                · subst hb
                  rw [zel_l] at h
                  have hl : lv_has ls 17 [(0, .ref (ad 0)), (1, .int x1), (2, .int x2), (3, .int x3), (7, .int x7), (8, .int x8), (10, .int (((120 : Int32) * x4) + x6)), (11, .int a12)] := hl
                  refine lv_iload hx hb dX11_hands_136 (lv_at hl 5 rfl) ?_
                  refine z_cSi (As := [.int x8]) (rest := []) ⟨hx, hb, hml, hown, hts⟩ hK hw hA (kX11_isWhich l D g ad (zwI σ 0 0 (0 : Int32)) x8 _ rfl) (zcwS 1 hts zgoodIn zw_1034 zw_1035 zw_64 zw_1036 rfl rfl hX11_isWhich ⟨Nat.le_of_ble_eq_true rfl, Nat.le_of_ble_eq_true rfl⟩) rfl hl.1 rfl (Nat.le_of_ble_eq_true rfl) dX11_hands_138 ⟨Nat.zero_le _, Nat.zero_le _⟩ (fun H locs hw => ?_)
                  refine lv_if_ne (tgt := 148) hx hb dX11_hands_141 (by decide) (fun t14 => ?_) (fun t14 => ?_)
                  · rw [if_neg t14] at h
                    refine lv_iconst (v := 0) hx hb dX11_hands_148 (by decide) ?_
                    refine lv_istore (lv' := [(11, .int (0 : Int32)), (0, .ref (ad 0)), (1, .int x1), (2, .int x2), (3, .int x3), (7, .int x7), (8, .int x8), (10, .int (((120 : Int32) * x4) + x6))]) hx hb dX11_hands_149 hl (by decide) rfl (fun ls hl => ?_)
                    obtain ⟨b15, e16, h⟩ := zbind h
                    refine wX11_hands_151 C x1 x2 x3 x7 x8 (((120 : Int32) * x4) + x6) zFU ((0 : Int32), zwI σ 0 0 (0 : Int32)) b15 e16 (fun H locs ls hw hl => ?_) _ _ _ hw (lv_sub hl [1, 2, 3, 4, 5, 6, 7, 0] rfl)
                    have hl : lv_has ls 17 [(0, .ref (ad 0)), (1, .int x1), (2, .int x2), (3, .int x3), (7, .int x7), (8, .int x8), (10, .int (((120 : Int32) * x4) + x6)), (11, .int b15.1)] := hl
                    refine lv_lconst (v := 1) hx hb dX11_hands_184 (by decide) ?_
                    refine lv_lstore (lv' := [(11, .long (1 : Int64)), (0, .ref (ad 0)), (1, .int x1), (2, .int x2), (3, .int x3), (7, .int x7), (8, .int x8), (10, .int (((120 : Int32) * x4) + x6))]) hx hb dX11_hands_185 hl (by decide) rfl (fun ls hl => ?_)
                    refine lv_iload_n hx hb dX11_hands_187 rfl (lv_at hl 2 rfl) ?_
                    refine lv_istore (lv' := [(13, .int x1), (11, .long (1 : Int64)), (0, .ref (ad 0)), (1, .int x1), (2, .int x2), (3, .int x3), (7, .int x7), (8, .int x8), (10, .int (((120 : Int32) * x4) + x6))]) hx hb dX11_hands_188 hl (by decide) rfl (fun ls hl => ?_)
                    refine lv_iconst (v := 0) hx hb dX11_hands_190 (by decide) ?_
                    refine lv_istore (lv' := [(14, .int (0 : Int32)), (13, .int x1), (11, .long (1 : Int64)), (0, .ref (ad 0)), (1, .int x1), (2, .int x2), (3, .int x3), (7, .int x7), (8, .int x8), (10, .int (((120 : Int32) * x4) + x6))]) hx hb dX11_hands_191 hl (by decide) rfl (fun ls hl => ?_)
                    obtain ⟨b17, e18, h⟩ := zbind h
                    refine wX11_hands_193 C x3 x7 x8 (((120 : Int32) * x4) + x6) zFU ((1 : Int64), x1, (0 : Int32), b15.2) b17 e18 (fun H locs ls hw hl => ?_) _ _ _ hw (lv_sub hl [3, 6, 7, 8, 9, 2, 1, 0] rfl)
                    have hl : lv_has ls 17 [(0, .ref (ad 0)), (3, .int x3), (7, .int x7), (8, .int x8), (10, .int (((120 : Int32) * x4) + x6)), (11, .long b17.1), (13, .int b17.2.1), (14, .int b17.2.2.1)] := hl
                    refine lv_lload hx hb dX11_hands_236 (lv_at hl 5 rfl) ?_
                    refine lv_lstore (lv' := [(14, .long b17.1), (0, .ref (ad 0)), (3, .int x3), (7, .int x7), (8, .int x8), (10, .int (((120 : Int32) * x4) + x6)), (11, .long b17.1), (13, .int b17.2.1)]) hx hb dX11_hands_238 hl (by decide) rfl (fun ls hl => ?_)
                    refine lv_iconst (v := 0) hx hb dX11_hands_240 (by decide) ?_
                    refine lv_istore (lv' := [(16, .int (0 : Int32)), (14, .long b17.1), (0, .ref (ad 0)), (3, .int x3), (7, .int x7), (8, .int x8), (10, .int (((120 : Int32) * x4) + x6)), (11, .long b17.1), (13, .int b17.2.1)]) hx hb dX11_hands_241 hl (by decide) rfl (fun ls hl => ?_)
                    obtain ⟨b19, e20, h⟩ := zbind h
                    refine wX11_hands_243 C b17.2.2.2 x3 x8 b17.1 zFU (b17.1, (0 : Int32)) b19 e20 (fun H locs ls hw hl => ?_) _ _ _ hw (lv_sub hl [2, 3, 5, 7, 1, 0] rfl)
                    have hl : lv_has ls 17 [(0, .ref (ad 0)), (3, .int x3), (8, .int x8), (11, .long b17.1), (14, .long b19.1), (16, .int b19.2)] := hl
                    refine lv_iload_n hx hb dX11_hands_270 rfl (lv_at hl 1 rfl) ?_
                    refine lv_aload_n hx hb dX11_hands_271 rfl (lv_at hl 0 rfl) ?_
                    refine z_geti hx hb hts zin_X11 hown hK hw zF1_0_5 (hts _ zw_843) dX11_hands_272 ?_
                    refine lv_icmp_ne (tgt := 283) hx hb dX11_hands_275 (by decide) (fun t21 => ?_) (fun t21 => ?_)
                    · rw [if_neg t21] at h
                      refine lv_aload_n hx hb dX11_hands_283 rfl (lv_at hl 0 rfl) ?_
                      refine z_getc hx hb hts zin_X11 hown hK hw zF1_0_14 (hts _ zw_852) dX11_hands_284 ?_
                      refine lv_iload_n hx hb dX11_hands_287 rfl (lv_at hl 1 rfl) ?_
                      obtain ⟨v22, e23, h⟩ := zbind h
                      refine z_lald hx hb hK hw e23 dX11_hands_288 ?_
                      refine lv_lload hx hb dX11_hands_289 (lv_at hl 3 rfl) ?_
                      refine lv_iload hx hb dX11_hands_291 (lv_at hl 2 rfl) ?_
                      obtain ⟨r24, e25, h⟩ := zbind h
                      refine z_cSl (As := [.long v22, .long b17.1, .int x8]) (rest := []) ⟨hx, hb, hml, hown, hts⟩ hK hw hA (kX11_share l D g ad b17.2.2.2 v22 b17.1 x8 r24 e25) (zcwS 3 hts zgoodIn zw_1042 zw_1043 zw_64 zw_1044 rfl rfl hX11_share ⟨Nat.le_of_ble_eq_true rfl, Nat.le_of_ble_eq_true rfl⟩) rfl hl.1 rfl (Nat.le_of_ble_eq_true rfl) dX11_hands_293 ⟨Nat.zero_le _, Nat.zero_le _⟩ (fun H locs hw => ?_)
                      obtain rfl := Option.some.inj h
                      exact hret _ _ _ _ hw dX11_hands_296
                    · rw [if_pos t21] at h
                      refine lv_lload hx hb dX11_hands_278 (lv_at hl 4 rfl) ?_
                      refine lv_goto (tgt := 289) hx hb dX11_hands_280 (by decide) ?_
                      refine lv_lload hx hb dX11_hands_289 (lv_at hl 3 rfl) ?_
                      refine lv_iload hx hb dX11_hands_291 (lv_at hl 2 rfl) ?_
                      obtain ⟨r26, e27, h⟩ := zbind h
                      refine z_cSl (As := [.long b19.1, .long b17.1, .int x8]) (rest := []) ⟨hx, hb, hml, hown, hts⟩ hK hw hA (kX11_share l D g ad b17.2.2.2 b19.1 b17.1 x8 r26 e27) (zcwS 3 hts zgoodIn zw_1042 zw_1043 zw_64 zw_1044 rfl rfl hX11_share ⟨Nat.le_of_ble_eq_true rfl, Nat.le_of_ble_eq_true rfl⟩) rfl hl.1 rfl (Nat.le_of_ble_eq_true rfl) dX11_hands_293 ⟨Nat.zero_le _, Nat.zero_le _⟩ (fun H locs hw => ?_)
                      obtain rfl := Option.some.inj h
                      exact hret _ _ _ _ hw dX11_hands_296
                  · rw [if_pos t14] at h
                    refine lv_ldc2 hx hb hown (hts _ zw_1029) dX11_hands_144 ?_
                    obtain rfl := Option.some.inj h
                    exact hret _ _ _ _ hw dX11_hands_147
                · subst hb
                  rw [zel_r] at h
                  obtain rfl := Option.some.inj h
                  exact hret _ _ _ _ hw hd
              · rw [if_pos t9] at h
                refine lv_ldc2 hx hb hown (hts _ zw_1029) dX11_hands_95 ?_
                obtain rfl := Option.some.inj h
                exact hret _ _ _ _ hw dX11_hands_98
            · rw [if_neg t8] at h
              refine lv_aload_n hx hb dX11_hands_67 rfl (lv_at hl 1 rfl) ?_
              refine lv_iload hx hb dX11_hands_68 (lv_at hl 0 rfl) ?_
              refine z_cVl (As := [.int r6]) (rest := []) ⟨hx, hb, hml, hown, hts⟩ hK hw hA (kX11_lost l D g ad (zwI σ 0 0 (0 : Int32)) r6 _ rfl) (zcwV 1 hts zgoodIn zw_1030 zw_1032 zw_36 zw_64 zw_1033 rfl rfl hX11_lost ⟨Nat.le_of_ble_eq_true rfl, Nat.le_of_ble_eq_true rfl⟩) zO1_0 rfl hl.1 rfl (Nat.le_of_ble_eq_true rfl) dX11_hands_70 ⟨Nat.zero_le _, Nat.zero_le _⟩ (fun H locs hw => ?_)
              obtain rfl := Option.some.inj h
              exact hret _ _ _ _ hw dX11_hands_73
          · rw [if_pos t5] at h
            refine lv_ldc2 hx hb hown (hts _ zw_1029) dX11_hands_44 ?_
            obtain rfl := Option.some.inj h
            exact hret _ _ _ _ hw dX11_hands_47
theorem hX11_readWitness : yX11_readWitness.cls = RX11 ∧ yX11_readWitness.cls ≠ "java/lang/invoke/MethodHandle" ∧ yX11_readWitness.cls ≠ "java/lang/invoke/VarHandle" ∧ (parseMethodDescriptor yX11_readWitness.desc).map (fun d => d.parameters.length) = some 1 := by decide +kernel
set_option maxHeartbeats 4000000 in
set_option maxRecDepth 100000 in
theorem kX11_readWitness (l : Launch) (D : va_G) (g : zG) (ad : Nat → Nat) (σ : zSt) (x1 : Int32) (o : Int32 × zSt) (h : fX11_readWitness σ x1 = some o) : zMi l D g 1 ad yX11_readWitness (Cond.code yX11_readWitness cX11_readWitness 2 (some .boolean) :: zws) (zRm 3) [.ref (ad 0), .int x1] σ o.1 o.2 := by
  refine z_enter_i (by decide) (Nat.le_of_ble_eq_true rfl) ?_
  intro p e s m below meth c A ls Q C hw hl hret
  obtain ⟨hx, hb, hml, hown, hts, hK, hA⟩ := id C
  have hown : s.vm.findClass RX11 = some m.cls := hown
  have C : zCx p c cX11_readWitness s _ RX11 m 2 A s.heap D g := C
  have hl : lv_has ls 2 [(0, .ref (ad 0)), (1, .int x1)] := hl
  unfold fX11_readWitness at h
  refine lv_aload_n hx hb dX11_readWitness_0 rfl (lv_at hl 0 rfl) ?_
  refine lv_bipush (v := 118) hx hb dX11_readWitness_1 (by decide) ?_
  refine lv_iload_n hx hb dX11_readWitness_3 rfl (lv_at hl 1 rfl) ?_
  obtain ⟨r1, e2, h⟩ := zbind h
  refine z_cVi (As := [.int (118 : Int32), .int x1]) (rest := []) ⟨hx, hb, hml, hown, hts⟩ hK hw hA (kX11_isCode l D g ad σ (118 : Int32) x1 r1 e2) (zcwV 2 hts zgoodIn zw_948 zw_950 zw_27 zw_64 zw_951 rfl rfl hX11_isCode ⟨Nat.le_of_ble_eq_true rfl, Nat.le_of_ble_eq_true rfl⟩) zO1_0 rfl hl.1 rfl (Nat.le_of_ble_eq_true rfl) dX11_readWitness_4 ⟨Nat.zero_le _, Nat.zero_le _⟩ (fun H locs hw => ?_)
  refine lv_if_ne (tgt := 12) hx hb dX11_readWitness_7 (by decide) (fun t3 => ?_) (fun t3 => ?_)
  · rw [if_neg t3] at h
    refine lv_aload_n hx hb dX11_readWitness_12 rfl (lv_at hl 0 rfl) ?_
    refine lv_dup hx hb dX11_readWitness_13 rfl ?_
    refine z_geti hx hb hts zin_X11 hown hK hw zF1_0_7 (hts _ zw_845) dX11_readWitness_14 ?_
    refine lv_iconst (v := 1) hx hb dX11_readWitness_17 (by decide) ?_
    refine lv_iadd hx hb dX11_readWitness_18 ?_
    refine z_puti hx hb hts zin_X11 tyX11_ok nmX11 hown hK hw zF1_0_7 (hts _ zw_845) zY1_0_7 dX11_readWitness_19 (fun H locs hw => ?_)
    refine lv_aload_n hx hb dX11_readWitness_22 rfl (lv_at hl 0 rfl) ?_
    refine lv_iconst (v := 0) hx hb dX11_readWitness_23 (by decide) ?_
    refine lv_aload_n hx hb dX11_readWitness_24 rfl (lv_at hl 0 rfl) ?_
    refine z_geti hx hb hts zin_X11 hown hK hw zF1_0_5 (hts _ zw_843) dX11_readWitness_25 ?_
    refine lv_iload_n hx hb dX11_readWitness_28 rfl (lv_at hl 1 rfl) ?_
    obtain ⟨r4, e5, h⟩ := zbind h
    refine z_cVi (As := [.int (0 : Int32), .int (zI (zwI σ 0 7 ((zI σ 0 7) + (1 : Int32))) 0 5), .int x1]) (rest := []) ⟨hx, hb, hml, hown, hts⟩ hK hw hA (kX11_readRows l D g ad (zwI σ 0 7 ((zI σ 0 7) + (1 : Int32))) (0 : Int32) (zI (zwI σ 0 7 ((zI σ 0 7) + (1 : Int32))) 0 5) x1 r4 e5) (zcwV 3 hts zgoodIn zw_956 zw_958 zw_29 zw_64 zw_959 rfl rfl hX11_readRows ⟨Nat.le_of_ble_eq_true rfl, Nat.le_of_ble_eq_true rfl⟩) zO1_0 rfl hl.1 rfl (Nat.le_of_ble_eq_true rfl) dX11_readWitness_29 ⟨Nat.zero_le _, Nat.zero_le _⟩ (fun H locs hw => ?_)
    refine lv_if_ne (tgt := 37) hx hb dX11_readWitness_32 (by decide) (fun t6 => ?_) (fun t6 => ?_)
    · rw [if_neg t6] at h
      refine lv_aload_n hx hb dX11_readWitness_37 rfl (lv_at hl 0 rfl) ?_
      refine lv_bipush (v := 59) hx hb dX11_readWitness_38 (by decide) ?_
      refine lv_iload_n hx hb dX11_readWitness_40 rfl (lv_at hl 1 rfl) ?_
      obtain ⟨r7, e8, h⟩ := zbind h
      refine z_cVi (As := [.int (59 : Int32), .int x1]) (rest := []) ⟨hx, hb, hml, hown, hts⟩ hK hw hA (kX11_isCode l D g ad r4.2 (59 : Int32) x1 r7 e8) (zcwV 2 hts zgoodIn zw_948 zw_950 zw_27 zw_64 zw_951 rfl rfl hX11_isCode ⟨Nat.le_of_ble_eq_true rfl, Nat.le_of_ble_eq_true rfl⟩) zO1_0 rfl hl.1 rfl (Nat.le_of_ble_eq_true rfl) dX11_readWitness_41 ⟨Nat.zero_le _, Nat.zero_le _⟩ (fun H locs hw => ?_)
      refine lv_if_ne (tgt := 49) hx hb dX11_readWitness_44 (by decide) (fun t9 => ?_) (fun t9 => ?_)
      · rw [if_neg t9] at h
        refine lv_aload_n hx hb dX11_readWitness_49 rfl (lv_at hl 0 rfl) ?_
        refine lv_dup hx hb dX11_readWitness_50 rfl ?_
        refine z_geti hx hb hts zin_X11 hown hK hw zF1_0_7 (hts _ zw_845) dX11_readWitness_51 ?_
        refine lv_iconst (v := 1) hx hb dX11_readWitness_54 (by decide) ?_
        refine lv_iadd hx hb dX11_readWitness_55 ?_
        refine z_puti hx hb hts zin_X11 tyX11_ok nmX11 hown hK hw zF1_0_7 (hts _ zw_845) zY1_0_7 dX11_readWitness_56 (fun H locs hw => ?_)
        refine lv_aload_n hx hb dX11_readWitness_59 rfl (lv_at hl 0 rfl) ?_
        refine lv_bipush (v := 112) hx hb dX11_readWitness_60 (by decide) ?_
        refine lv_iload_n hx hb dX11_readWitness_62 rfl (lv_at hl 1 rfl) ?_
        obtain ⟨r10, e11, h⟩ := zbind h
        refine z_cVi (As := [.int (112 : Int32), .int x1]) (rest := []) ⟨hx, hb, hml, hown, hts⟩ hK hw hA (kX11_isCode l D g ad (zwI r4.2 0 7 ((zI r4.2 0 7) + (1 : Int32))) (112 : Int32) x1 r10 e11) (zcwV 2 hts zgoodIn zw_948 zw_950 zw_27 zw_64 zw_951 rfl rfl hX11_isCode ⟨Nat.le_of_ble_eq_true rfl, Nat.le_of_ble_eq_true rfl⟩) zO1_0 rfl hl.1 rfl (Nat.le_of_ble_eq_true rfl) dX11_readWitness_63 ⟨Nat.zero_le _, Nat.zero_le _⟩ (fun H locs hw => ?_)
        refine lv_if_ne (tgt := 71) hx hb dX11_readWitness_66 (by decide) (fun t12 => ?_) (fun t12 => ?_)
        · rw [if_neg t12] at h
          refine lv_aload_n hx hb dX11_readWitness_71 rfl (lv_at hl 0 rfl) ?_
          refine lv_dup hx hb dX11_readWitness_72 rfl ?_
          refine z_geti hx hb hts zin_X11 hown hK hw zF1_0_7 (hts _ zw_845) dX11_readWitness_73 ?_
          refine lv_iconst (v := 1) hx hb dX11_readWitness_76 (by decide) ?_
          refine lv_iadd hx hb dX11_readWitness_77 ?_
          refine z_puti hx hb hts zin_X11 tyX11_ok nmX11 hown hK hw zF1_0_7 (hts _ zw_845) zY1_0_7 dX11_readWitness_78 (fun H locs hw => ?_)
          refine lv_aload_n hx hb dX11_readWitness_81 rfl (lv_at hl 0 rfl) ?_
          refine lv_aload_n hx hb dX11_readWitness_82 rfl (lv_at hl 0 rfl) ?_
          refine lv_aload_n hx hb dX11_readWitness_83 rfl (lv_at hl 0 rfl) ?_
          refine z_geti hx hb hts zin_X11 hown hK hw zF1_0_7 (hts _ zw_845) dX11_readWitness_84 ?_
          refine lv_iload_n hx hb dX11_readWitness_87 rfl (lv_at hl 1 rfl) ?_
          obtain ⟨r13, e14, h⟩ := zbind h
          refine z_cVi (As := [.int (zI (zwI (zwI r4.2 0 7 ((zI r4.2 0 7) + (1 : Int32))) 0 7 ((zI (zwI r4.2 0 7 ((zI r4.2 0 7) + (1 : Int32))) 0 7) + (1 : Int32))) 0 7), .int x1]) (rest := [.ref (ad 0)]) ⟨hx, hb, hml, hown, hts⟩ hK hw hA (kX11_digitAt l D g ad (zwI (zwI r4.2 0 7 ((zI r4.2 0 7) + (1 : Int32))) 0 7 ((zI (zwI r4.2 0 7 ((zI r4.2 0 7) + (1 : Int32))) 0 7) + (1 : Int32))) (zI (zwI (zwI r4.2 0 7 ((zI r4.2 0 7) + (1 : Int32))) 0 7 ((zI (zwI r4.2 0 7 ((zI r4.2 0 7) + (1 : Int32))) 0 7) + (1 : Int32))) 0 7) x1 r13 e14) (zcwV 2 hts zgoodIn zw_952 zw_954 zw_28 zw_64 zw_955 rfl rfl hX11_digitAt ⟨Nat.le_of_ble_eq_true rfl, Nat.le_of_ble_eq_true rfl⟩) zO1_0 rfl hl.1 rfl (Nat.le_of_ble_eq_true rfl) dX11_readWitness_88 ⟨Nat.zero_le _, Nat.zero_le _⟩ (fun H locs hw => ?_)
          refine z_puti hx hb hts zin_X11 tyX11_ok nmX11 hown hK hw zF1_0_9 (hts _ zw_847) zY1_0_9 dX11_readWitness_91 (fun H locs hw => ?_)
          refine lv_aload_n hx hb dX11_readWitness_94 rfl (lv_at hl 0 rfl) ?_
          refine z_geti hx hb hts zin_X11 hown hK hw zF1_0_9 (hts _ zw_847) dX11_readWitness_95 ?_
          refine lv_bipush (v := (-9)) hx hb dX11_readWitness_98 (by decide) ?_
          refine lv_icmp_ne (tgt := 105) hx hb dX11_readWitness_100 (by decide) (fun t15 => ?_) (fun t15 => ?_)
          · rw [if_neg t15] at h
            refine lv_aload_n hx hb dX11_readWitness_105 rfl (lv_at hl 0 rfl) ?_
            refine lv_dup hx hb dX11_readWitness_106 rfl ?_
            refine z_geti hx hb hts zin_X11 hown hK hw zF1_0_7 (hts _ zw_845) dX11_readWitness_107 ?_
            refine lv_iconst (v := 1) hx hb dX11_readWitness_110 (by decide) ?_
            refine lv_iadd hx hb dX11_readWitness_111 ?_
            refine z_puti hx hb hts zin_X11 tyX11_ok nmX11 hown hK hw zF1_0_7 (hts _ zw_845) zY1_0_7 dX11_readWitness_112 (fun H locs hw => ?_)
            refine lv_aload_n hx hb dX11_readWitness_115 rfl (lv_at hl 0 rfl) ?_
            refine z_geti hx hb hts zin_X11 hown hK hw zF1_0_7 (hts _ zw_845) dX11_readWitness_116 ?_
            refine lv_iload_n hx hb dX11_readWitness_119 rfl (lv_at hl 1 rfl) ?_
            refine lv_icmp_ne (tgt := 127) hx hb dX11_readWitness_120 (by decide) (fun t16 => ?_) (fun t16 => ?_)
            · rw [if_neg t16] at h
              refine lv_iconst (v := 0) hx hb dX11_readWitness_127 (by decide) ?_
              obtain rfl := Option.some.inj h
              exact hret _ _ _ _ hw zb0 dX11_readWitness_128
            · rw [if_pos t16] at h
              refine lv_iconst (v := 1) hx hb dX11_readWitness_123 (by decide) ?_
              refine lv_goto (tgt := 128) hx hb dX11_readWitness_124 (by decide) ?_
              obtain rfl := Option.some.inj h
              exact hret _ _ _ _ hw zb1 dX11_readWitness_128
          · rw [if_pos t15] at h
            refine lv_iconst (v := 0) hx hb dX11_readWitness_103 (by decide) ?_
            obtain rfl := Option.some.inj h
            exact hret _ _ _ _ hw zb0 dX11_readWitness_104
        · rw [if_pos t12] at h
          refine lv_iconst (v := 0) hx hb dX11_readWitness_69 (by decide) ?_
          obtain rfl := Option.some.inj h
          exact hret _ _ _ _ hw zb0 dX11_readWitness_70
      · rw [if_pos t9] at h
        refine lv_iconst (v := 0) hx hb dX11_readWitness_47 (by decide) ?_
        obtain rfl := Option.some.inj h
        exact hret _ _ _ _ hw zb0 dX11_readWitness_48
    · rw [if_pos t6] at h
      refine lv_iconst (v := 0) hx hb dX11_readWitness_35 (by decide) ?_
      obtain rfl := Option.some.inj h
      exact hret _ _ _ _ hw zb0 dX11_readWitness_36
  · rw [if_pos t3] at h
    refine lv_iconst (v := 0) hx hb dX11_readWitness_10 (by decide) ?_
    obtain rfl := Option.some.inj h
    exact hret _ _ _ _ hw zb0 dX11_readWitness_11
set_option maxHeartbeats 4000000 in
set_option maxRecDepth 100000 in
theorem wX11_witness_115 {p : Program} {l : Launch} {e : Env} {s : State} {m : MethodId} {args : Array Value} {below : List Frame} {meth : Method} {c : Code} {A : Nat → Prop} {H0 : Heap} {Q : State → Prop} {D : va_G} {g : zG} {ad : Nat → Nat} (C : zCx p c cX11_witness s args RX11 m 8 A H0 D g)  (n : Nat) (a : (Int32 × zSt)) (b : (Int32 × zSt)) (h : zLp (fun a => bX11_witness_115 a.1 a.2) n a = some b) (hk : ∀ (H : Heap) (locs : List Loc) (ls : Array Slot), zH D g 1 ad A H0 b.2 H locs → lv_has ls 8 [(0, .ref (ad 0)), (7, .int b.1)] → W p l e (zRm 4) s m args below meth c H locs 0 0 Q (F0 m 142 ls [])) : ∀ (H : Heap) (locs : List Loc) (ls : Array Slot), zH D g 1 ad A H0 a.2 H locs → lv_has ls 8 [(0, .ref (ad 0)), (7, .int a.1)] → W p l e (zRm 4) s m args below meth c H locs 0 0 Q (F0 m 115 ls []) := by
  obtain ⟨hx, hb, hml, hown, hts, hK, hA⟩ := id C
  refine zLp_walk (P := fun (a : (Int32 × zSt)) => ∀ (H : Heap) (locs : List Loc) (ls : Array Slot), zH D g 1 ad A H0 a.2 H locs → lv_has ls 8 [(0, .ref (ad 0)), (7, .int a.1)] → W p l e (zRm 4) s m args below meth c H locs 0 0 Q (F0 m 115 ls [])) (E := fun (b' : (Int32 × zSt)) => b' = b) ?_ n a b h rfl
  intro a r h hn he H locs ls hw hl
  obtain ⟨x7, σ⟩ := a
  have h : bX11_witness_115 x7 σ = some r := h
  have hl : lv_has ls 8 [(0, .ref (ad 0)), (7, .int x7)] := hl
  have hw : zH D g 1 ad A H0 σ H locs := hw
  unfold bX11_witness_115 at h
  refine lv_iload hx hb dX11_witness_115 (lv_at hl 1 rfl) ?_
  refine lv_bipush (v := 36) hx hb dX11_witness_117 (by decide) ?_
  refine lv_icmp_ge (tgt := 142) hx hb dX11_witness_119 (by decide) (fun t1 => ?_) (fun t1 => ?_)
  · rw [if_pos t1] at h
    obtain rfl := Option.some.inj h
    obtain rfl := he _ rfl
    exact hk _ _ _ hw (lv_sub hl [0, 1] rfl)
  · rw [if_neg t1] at h
    refine lv_aload_n hx hb dX11_witness_122 rfl (lv_at hl 0 rfl) ?_
    refine z_getc hx hb hts zin_X11 hown hK hw zF1_0_18 (hts _ zw_856) dX11_witness_123 ?_
    refine lv_iload hx hb dX11_witness_126 (lv_at hl 1 rfl) ?_
    refine lv_aload_n hx hb dX11_witness_128 rfl (lv_at hl 0 rfl) ?_
    refine z_getc hx hb hts zin_X11 hown hK hw zF1_0_10 (hts _ zw_848) dX11_witness_129 ?_
    refine lv_iload hx hb dX11_witness_132 (lv_at hl 1 rfl) ?_
    obtain ⟨v2, e3, h⟩ := zbind h
    refine z_iald hx hb hK hw e3 dX11_witness_134 ?_
    obtain ⟨s4, e5, h⟩ := zbind h
    refine z_iast hx hb hK hw e5 dX11_witness_135 (fun H locs hw => ?_)
    refine lv_iinc (v := x7 + 1) (lv' := [(7, .int (x7 + 1)), (0, .ref (ad 0))]) hx hb dX11_witness_136 hl (k := 1) rfl rfl (by decide) rfl (fun ls hl => ?_)
    refine lv_goto (tgt := 115) hx hb dX11_witness_139 (by decide) ?_
    obtain rfl := Option.some.inj h
    exact hn _ rfl _ _ _ hw (lv_sub hl [1, 0] rfl)
theorem hX11_witness : yX11_witness.cls = RX11 ∧ yX11_witness.cls ≠ "java/lang/invoke/MethodHandle" ∧ yX11_witness.cls ≠ "java/lang/invoke/VarHandle" ∧ (parseMethodDescriptor yX11_witness.desc).map (fun d => d.parameters.length) = some 4 := by decide +kernel
set_option maxHeartbeats 4000000 in
set_option maxRecDepth 100000 in
theorem kX11_witness (l : Launch) (D : va_G) (g : zG) (ad : Nat → Nat) (σ : zSt) (x1 : Int32) (x2 : Int32) (x3 : Int32) (x4 : Int32) (o : Int32 × zSt) (h : fX11_witness σ x1 x2 x3 x4 = some o) : zMi l D g 1 ad yX11_witness (Cond.code yX11_witness cX11_witness 8 (some .int) :: zws) (zRm 4) [.ref (ad 0), .int x1, .int x2, .int x3, .int x4] σ o.1 o.2 := by
  refine z_enter_i (by decide) (Nat.le_of_ble_eq_true rfl) ?_
  intro p e s m below meth c A ls Q C hw hl hret
  obtain ⟨hx, hb, hml, hown, hts, hK, hA⟩ := id C
  have hown : s.vm.findClass RX11 = some m.cls := hown
  have C : zCx p c cX11_witness s _ RX11 m 8 A s.heap D g := C
  have hl : lv_has ls 8 [(0, .ref (ad 0)), (1, .int x1), (2, .int x2), (3, .int x3), (4, .int x4)] := hl
  unfold fX11_witness at h
  refine lv_aload_n hx hb dX11_witness_0 rfl (lv_at hl 0 rfl) ?_
  refine lv_iconst (v := 0) hx hb dX11_witness_1 (by decide) ?_
  refine z_puti hx hb hts zin_X11 tyX11_ok nmX11 hown hK hw zF1_0_0 (hts _ zw_838) zY1_0_0 dX11_witness_2 (fun H locs hw => ?_)
  refine lv_iload_n hx hb dX11_witness_5 rfl (lv_at hl 1 rfl) ?_
  refine z_cSi (As := [.int x1]) (rest := []) ⟨hx, hb, hml, hown, hts⟩ hK hw hA (kX11_isSheet l D g ad (zwI σ 0 0 (0 : Int32)) x1 _ rfl) (zcwS 1 hts zgoodIn zw_927 zw_928 zw_64 zw_929 rfl rfl hX11_isSheet ⟨Nat.le_of_ble_eq_true rfl, Nat.le_of_ble_eq_true rfl⟩) rfl hl.1 rfl (Nat.le_of_ble_eq_true rfl) dX11_witness_6 ⟨Nat.zero_le _, Nat.zero_le _⟩ (fun H locs hw => ?_)
  refine lv_if_ne (tgt := 14) hx hb dX11_witness_9 (by decide) (fun t1 => ?_) (fun t1 => ?_)
  · rw [if_neg t1] at h
    refine lv_iload_n hx hb dX11_witness_14 rfl (lv_at hl 2 rfl) ?_
    refine z_cSi (As := [.int x2]) (rest := []) ⟨hx, hb, hml, hown, hts⟩ hK hw hA (kX11_isSort l D g ad (zwI σ 0 0 (0 : Int32)) x2 _ rfl) (zcwS 1 hts zgoodIn zw_933 zw_934 zw_64 zw_935 rfl rfl hX11_isSort ⟨Nat.le_of_ble_eq_true rfl, Nat.le_of_ble_eq_true rfl⟩) rfl hl.1 rfl (Nat.le_of_ble_eq_true rfl) dX11_witness_15 ⟨Nat.zero_le _, Nat.zero_le _⟩ (fun H locs hw => ?_)
    refine lv_if_ne (tgt := 24) hx hb dX11_witness_18 (by decide) (fun t2 => ?_) (fun t2 => ?_)
    · rw [if_neg t2] at h
      refine lv_aload_n hx hb dX11_witness_24 rfl (lv_at hl 0 rfl) ?_
      refine z_geti hx hb hts zin_X11 hown hK hw zF1_0_5 (hts _ zw_843) dX11_witness_25 ?_
      refine lv_if_ne (tgt := 34) hx hb dX11_witness_28 (by decide) (fun t3 => ?_) (fun t3 => ?_)
      · rw [if_neg t3] at h
        refine lv_aload_n hx hb dX11_witness_34 rfl (lv_at hl 0 rfl) ?_
        refine lv_iload_n hx hb dX11_witness_35 rfl (lv_at hl 1 rfl) ?_
        refine lv_iload_n hx hb dX11_witness_36 rfl (lv_at hl 2 rfl) ?_
        refine lv_iload_n hx hb dX11_witness_37 rfl (lv_at hl 3 rfl) ?_
        refine lv_iload hx hb dX11_witness_38 (lv_at hl 4 rfl) ?_
        obtain ⟨r4, e5, h⟩ := zbind h
        refine z_cVi (As := [.int x1, .int x2, .int x3, .int x4]) (rest := []) ⟨hx, hb, hml, hown, hts⟩ hK hw hA (kX11_against l D g ad (zwI σ 0 0 (0 : Int32)) x1 x2 x3 x4 r4 e5) (zcwV 4 hts zgoodIn zw_936 zw_938 zw_24 zw_64 zw_939 rfl rfl hX11_against ⟨Nat.le_of_ble_eq_true rfl, Nat.le_of_ble_eq_true rfl⟩) zO1_0 rfl hl.1 rfl (Nat.le_of_ble_eq_true rfl) dX11_witness_40 ⟨Nat.zero_le _, Nat.zero_le _⟩ (fun H locs hw => ?_)
        refine lv_istore (lv' := [(5, .int r4), (0, .ref (ad 0)), (1, .int x1), (2, .int x2), (3, .int x3), (4, .int x4)]) hx hb dX11_witness_43 hl (by decide) rfl (fun ls hl => ?_)
        refine lv_iload hx hb dX11_witness_45 (lv_at hl 0 rfl) ?_
        refine lv_if_eq (tgt := 57) hx hb dX11_witness_47 (by decide) (fun t6 => ?_) (fun t6 => ?_)
        · rw [if_pos t6] at h
          refine lv_bipush (v := 120) hx hb dX11_witness_57 (by decide) ?_
          refine lv_iload_n hx hb dX11_witness_59 rfl (lv_at hl 2 rfl) ?_
          refine lv_imul hx hb dX11_witness_60 ?_
          refine lv_iload_n hx hb dX11_witness_61 rfl (lv_at hl 4 rfl) ?_
          refine lv_iadd hx hb dX11_witness_62 ?_
          refine lv_istore (lv' := [(6, .int (((120 : Int32) * x1) + x3)), (5, .int r4), (0, .ref (ad 0)), (1, .int x1), (2, .int x2), (3, .int x3), (4, .int x4)]) hx hb dX11_witness_63 hl (by decide) rfl (fun ls hl => ?_)
          refine lv_aload_n hx hb dX11_witness_65 rfl (lv_at hl 2 rfl) ?_
          refine lv_iload hx hb dX11_witness_66 (lv_at hl 0 rfl) ?_
          refine z_puti hx hb hts zin_X11 tyX11_ok nmX11 hown hK hw zF1_0_7 (hts _ zw_845) zY1_0_7 dX11_witness_68 (fun H locs hw => ?_)
          refine lv_aload_n hx hb dX11_witness_71 rfl (lv_at hl 2 rfl) ?_
          refine lv_iload hx hb dX11_witness_72 (lv_at hl 0 rfl) ?_
          refine lv_iload hx hb dX11_witness_74 (lv_at hl 6 rfl) ?_
          refine lv_iadd hx hb dX11_witness_76 ?_
          obtain ⟨r7, e8, h⟩ := zbind h
          refine z_cVi (As := [.int ((((120 : Int32) * x1) + x3) + x4)]) (rest := []) ⟨hx, hb, hml, hown, hts⟩ hK hw hA (kX11_readWitness l D g ad (zwI (zwI σ 0 0 (0 : Int32)) 0 7 (((120 : Int32) * x1) + x3)) ((((120 : Int32) * x1) + x3) + x4) r7 e8) (zcwV 1 hts zgoodIn zw_1049 zw_1051 zw_38 zw_64 zw_1052 rfl rfl hX11_readWitness ⟨Nat.le_of_ble_eq_true rfl, Nat.le_of_ble_eq_true rfl⟩) zO1_0 rfl hl.1 rfl (Nat.le_of_ble_eq_true rfl) dX11_witness_77 ⟨Nat.zero_le _, Nat.zero_le _⟩ (fun H locs hw => ?_)
          refine lv_if_ne (tgt := 94) hx hb dX11_witness_80 (by decide) (fun t9 => ?_) (fun t9 => ?_)
          · rw [if_neg t9] at h
            refine lv_aload_n hx hb dX11_witness_94 rfl (lv_at hl 2 rfl) ?_
            refine lv_iconst (v := 1) hx hb dX11_witness_95 (by decide) ?_
            refine z_putb hx hb hts zin_X11 tyX11_ok nmX11 hown hK hw zF1_0_16 (hts _ zw_854) zY1_0_16 rfl rfl dX11_witness_96 (fun H locs hw => ?_)
            refine lv_aload_n hx hb dX11_witness_99 rfl (lv_at hl 2 rfl) ?_
            refine lv_aload_n hx hb dX11_witness_100 rfl (lv_at hl 2 rfl) ?_
            refine z_geti hx hb hts zin_X11 hown hK hw zF1_0_9 (hts _ zw_847) dX11_witness_101 ?_
            refine z_puti hx hb hts zin_X11 tyX11_ok nmX11 hown hK hw zF1_0_17 (hts _ zw_855) zY1_0_17 dX11_witness_104 (fun H locs hw => ?_)
            refine lv_aload_n hx hb dX11_witness_107 rfl (lv_at hl 2 rfl) ?_
            refine lv_iconst (v := 0) hx hb dX11_witness_108 (by decide) ?_
            refine z_puti hx hb hts zin_X11 tyX11_ok nmX11 hown hK hw zF1_0_19 (hts _ zw_857) zY1_0_19 dX11_witness_109 (fun H locs hw => ?_)
            refine lv_iconst (v := 0) hx hb dX11_witness_112 (by decide) ?_
            refine lv_istore (lv' := [(7, .int (0 : Int32)), (6, .int (((120 : Int32) * x1) + x3)), (5, .int r4), (0, .ref (ad 0)), (1, .int x1), (2, .int x2), (3, .int x3), (4, .int x4)]) hx hb dX11_witness_113 hl (by decide) rfl (fun ls hl => ?_)
            obtain ⟨b10, e11, h⟩ := zbind h
            refine wX11_witness_115 C  zFU ((0 : Int32), zwI (zwI (zwI r7.2 0 16 (1 : Int32)) 0 17 (zI (zwI r7.2 0 16 (1 : Int32)) 0 9)) 0 19 (0 : Int32)) b10 e11 (fun H locs ls hw hl => ?_) _ _ _ hw (lv_sub hl [3, 0] rfl)
            have hl : lv_has ls 8 [(0, .ref (ad 0)), (7, .int b10.1)] := hl
            refine lv_iconst (v := 1) hx hb dX11_witness_142 (by decide) ?_
            obtain rfl := Option.some.inj h
            exact hret _ _ _ _ hw rfl dX11_witness_143
          · rw [if_pos t9] at h
            refine lv_bipush (v := (-100)) hx hb dX11_witness_83 (by decide) ?_
            refine lv_aload_n hx hb dX11_witness_85 rfl (lv_at hl 2 rfl) ?_
            refine z_geti hx hb hts zin_X11 hown hK hw zF1_0_7 (hts _ zw_845) dX11_witness_86 ?_
            refine lv_iload hx hb dX11_witness_89 (lv_at hl 0 rfl) ?_
            refine lv_isub hx hb dX11_witness_91 ?_
            refine lv_isub hx hb dX11_witness_92 ?_
            obtain rfl := Option.some.inj h
            exact hret _ _ _ _ hw rfl dX11_witness_93
        · rw [if_neg t6] at h
          refine lv_aload_n hx hb dX11_witness_50 rfl (lv_at hl 1 rfl) ?_
          refine lv_iload hx hb dX11_witness_51 (lv_at hl 0 rfl) ?_
          refine z_cVi (As := [.int r4]) (rest := []) ⟨hx, hb, hml, hown, hts⟩ hK hw hA (kX11_fails l D g ad (zwI σ 0 0 (0 : Int32)) r4 _ rfl) (zcwV 1 hts zgoodIn zw_940 zw_942 zw_25 zw_64 zw_943 rfl rfl hX11_fails ⟨Nat.le_of_ble_eq_true rfl, Nat.le_of_ble_eq_true rfl⟩) zO1_0 rfl hl.1 rfl (Nat.le_of_ble_eq_true rfl) dX11_witness_53 ⟨Nat.zero_le _, Nat.zero_le _⟩ (fun H locs hw => ?_)
          obtain rfl := Option.some.inj h
          exact hret _ _ _ _ hw rfl dX11_witness_56
      · rw [if_pos t3] at h
        refine lv_bipush (v := (-3)) hx hb dX11_witness_31 (by decide) ?_
        obtain rfl := Option.some.inj h
        exact hret _ _ _ _ hw rfl dX11_witness_33
    · rw [if_pos t2] at h
      refine lv_bipush (v := (-2)) hx hb dX11_witness_21 (by decide) ?_
      obtain rfl := Option.some.inj h
      exact hret _ _ _ _ hw rfl dX11_witness_23
  · rw [if_pos t1] at h
    refine lv_iconst (v := (-1)) hx hb dX11_witness_12 (by decide) ?_
    obtain rfl := Option.some.inj h
    exact hret _ _ _ _ hw rfl dX11_witness_13
theorem hX11_answered : yX11_answered.cls = RX11 ∧ yX11_answered.cls ≠ "java/lang/invoke/MethodHandle" ∧ yX11_answered.cls ≠ "java/lang/invoke/VarHandle" ∧ (parseMethodDescriptor yX11_answered.desc).map (fun d => d.parameters.length) = some 2 := by decide +kernel
set_option maxHeartbeats 4000000 in
set_option maxRecDepth 100000 in
theorem kX11_answered (l : Launch) (D : va_G) (g : zG) (ad : Nat → Nat) (σ : zSt) (x1 : Int32) (x2 : Int32) (o : Int32) (h : fX11_answered σ x1 x2 = some o) : zMi l D g 1 ad yX11_answered (Cond.code yX11_answered cX11_answered 5 (some .int) :: zws) (zRm 1) [.ref (ad 0), .int x1, .int x2] σ o σ := by
  refine z_enter_i (by decide) (Nat.le_of_ble_eq_true rfl) ?_
  intro p e s m below meth c A ls Q C hw hl hret
  obtain ⟨hx, hb, hml, hown, hts, hK, hA⟩ := id C
  have hown : s.vm.findClass RX11 = some m.cls := hown
  have C : zCx p c cX11_answered s _ RX11 m 5 A s.heap D g := C
  have hl : lv_has ls 5 [(0, .ref (ad 0)), (1, .int x1), (2, .int x2)] := hl
  unfold fX11_answered at h
  refine lv_bipush (v := 12) hx hb dX11_answered_0 (by decide) ?_
  refine lv_aload_n hx hb dX11_answered_2 rfl (lv_at hl 0 rfl) ?_
  refine z_geti hx hb hts zin_X11 hown hK hw zF1_0_17 (hts _ zw_855) dX11_answered_3 ?_
  refine lv_isub hx hb dX11_answered_6 ?_
  refine lv_istore_n (lv' := [(3, .int ((12 : Int32) - (zI σ 0 17))), (0, .ref (ad 0)), (1, .int x1), (2, .int x2)]) hx hb dX11_answered_7 rfl hl (by decide) rfl (fun ls hl => ?_)
  refine lv_iload_n hx hb dX11_answered_8 rfl (lv_at hl 3 rfl) ?_
  refine lv_aload_n hx hb dX11_answered_9 rfl (lv_at hl 1 rfl) ?_
  refine z_geti hx hb hts zin_X11 hown hK hw zF1_0_5 (hts _ zw_843) dX11_answered_10 ?_
  refine lv_icmp_ne (tgt := 34) hx hb dX11_answered_13 (by decide) (fun t1 => ?_) (fun t1 => ?_)
  · rw [if_neg t1] at h
    refine lv_aload_n hx hb dX11_answered_34 rfl (lv_at hl 1 rfl) ?_
    refine z_getc hx hb hts zin_X11 hown hK hw zF1_0_18 (hts _ zw_856) dX11_answered_35 ?_
    refine lv_bipush (v := 6) hx hb dX11_answered_38 (by decide) ?_
    refine lv_iload_n hx hb dX11_answered_40 rfl (lv_at hl 2 rfl) ?_
    refine lv_imul hx hb dX11_answered_41 ?_
    refine lv_iload_n hx hb dX11_answered_42 rfl (lv_at hl 3 rfl) ?_
    refine lv_iadd hx hb dX11_answered_43 ?_
    obtain ⟨v2, e3, h⟩ := zbind h
    refine z_iald hx hb hK hw e3 dX11_answered_44 ?_
    refine lv_iload_n hx hb dX11_answered_45 rfl (lv_at hl 0 rfl) ?_
    refine lv_imul hx hb dX11_answered_46 ?_
    refine lv_istore (lv' := [(4, .int (v2 * ((12 : Int32) - (zI σ 0 17)))), (3, .int ((12 : Int32) - (zI σ 0 17))), (0, .ref (ad 0)), (1, .int x1), (2, .int x2)]) hx hb dX11_answered_47 hl (by decide) rfl (fun ls hl => ?_)
    refine lv_iload_n hx hb dX11_answered_49 rfl (lv_at hl 4 rfl) ?_
    refine lv_if_ne (tgt := 66) hx hb dX11_answered_50 (by decide) (fun t4 => ?_) (fun t4 => ?_)
    · rw [if_neg t4] at h
      refine lv_iload hx hb dX11_answered_66 (lv_at hl 0 rfl) ?_
      obtain rfl := Option.some.inj h
      exact hret _ _ _ _ hw rfl dX11_answered_68
    · rw [if_pos t4] at h
      refine lv_iload hx hb dX11_answered_53 (lv_at hl 0 rfl) ?_
      refine lv_bipush (v := 12) hx hb dX11_answered_55 (by decide) ?_
      refine lv_aload_n hx hb dX11_answered_57 rfl (lv_at hl 2 rfl) ?_
      refine z_geti hx hb hts zin_X11 hown hK hw zF1_0_17 (hts _ zw_855) dX11_answered_58 ?_
      refine lv_imul hx hb dX11_answered_61 ?_
      refine lv_iadd hx hb dX11_answered_62 ?_
      refine lv_goto (tgt := 68) hx hb dX11_answered_63 (by decide) ?_
      obtain rfl := Option.some.inj h
      exact hret _ _ _ _ hw rfl dX11_answered_68
  · rw [if_pos t1] at h
    refine lv_aload_n hx hb dX11_answered_16 rfl (lv_at hl 1 rfl) ?_
    refine z_getc hx hb hts zin_X11 hown hK hw zF1_0_18 (hts _ zw_856) dX11_answered_17 ?_
    refine lv_bipush (v := 6) hx hb dX11_answered_20 (by decide) ?_
    refine lv_iload_n hx hb dX11_answered_22 rfl (lv_at hl 2 rfl) ?_
    refine lv_imul hx hb dX11_answered_23 ?_
    refine lv_aload_n hx hb dX11_answered_24 rfl (lv_at hl 1 rfl) ?_
    refine z_geti hx hb hts zin_X11 hown hK hw zF1_0_5 (hts _ zw_843) dX11_answered_25 ?_
    obtain ⟨r5, e6, h⟩ := zbind h
    refine z_cSi (As := [.ref (ad 10), .int ((6 : Int32) * x1), .int (zI σ 0 5)]) (rest := []) ⟨hx, hb, hml, hown, hts⟩ hK hw hA (kX11_lacks l D g ad σ 10 ((6 : Int32) * x1) (zI σ 0 5) r5 e6) (zcwS 3 hts zgoodIn zw_978 zw_979 zw_64 zw_980 rfl rfl hX11_lacks ⟨Nat.le_of_ble_eq_true rfl, Nat.le_of_ble_eq_true rfl⟩) rfl hl.1 rfl (Nat.le_of_ble_eq_true rfl) dX11_answered_28 ⟨Nat.zero_le _, Nat.zero_le _⟩ (fun H locs hw => ?_)
    refine lv_iload_n hx hb dX11_answered_31 rfl (lv_at hl 0 rfl) ?_
    refine lv_imul hx hb dX11_answered_32 ?_
    obtain rfl := Option.some.inj h
    exact hret _ _ _ _ hw rfl dX11_answered_33
theorem hX11_answers : yX11_answers.cls = RX11 ∧ yX11_answers.cls ≠ "java/lang/invoke/MethodHandle" ∧ yX11_answers.cls ≠ "java/lang/invoke/VarHandle" ∧ (parseMethodDescriptor yX11_answers.desc).map (fun d => d.parameters.length) = some 2 := by decide +kernel
set_option maxHeartbeats 4000000 in
set_option maxRecDepth 100000 in
theorem kX11_answers (l : Launch) (D : va_G) (g : zG) (ad : Nat → Nat) (σ : zSt) (x1 : Int32) (x2 : Int32) (o : Int32) (h : fX11_answers σ x1 x2 = some o) : zMi l D g 1 ad yX11_answers (Cond.code yX11_answers cX11_answers 3 (some .int) :: zws) (zRm 2) [.ref (ad 0), .int x1, .int x2] σ o σ := by
  refine z_enter_i (by decide) (Nat.le_of_ble_eq_true rfl) ?_
  intro p e s m below meth c A ls Q C hw hl hret
  obtain ⟨hx, hb, hml, hown, hts, hK, hA⟩ := id C
  have hown : s.vm.findClass RX11 = some m.cls := hown
  have C : zCx p c cX11_answers s _ RX11 m 3 A s.heap D g := C
  have hl : lv_has ls 3 [(0, .ref (ad 0)), (1, .int x1), (2, .int x2)] := hl
  unfold fX11_answers at h
  refine lv_aload_n hx hb dX11_answers_0 rfl (lv_at hl 0 rfl) ?_
  refine lv_iload_n hx hb dX11_answers_1 rfl (lv_at hl 1 rfl) ?_
  refine z_cVi (As := [.int x1]) (rest := []) ⟨hx, hb, hml, hown, hts⟩ hK hw hA (kX11_isWord l D g ad σ x1 _ rfl) (zcwV 1 hts zgoodIn zw_964 zw_966 zw_30 zw_64 zw_967 rfl rfl hX11_isWord ⟨Nat.le_of_ble_eq_true rfl, Nat.le_of_ble_eq_true rfl⟩) zO1_0 rfl hl.1 rfl (Nat.le_of_ble_eq_true rfl) dX11_answers_2 ⟨Nat.zero_le _, Nat.zero_le _⟩ (fun H locs hw => ?_)
  refine lv_if_eq (tgt := 16) hx hb dX11_answers_5 (by decide) (fun t1 => ?_) (fun t1 => ?_)
  · rw [if_pos t1] at h
    refine lv_iconst (v := (-1)) hx hb dX11_answers_16 (by decide) ?_
    obtain rfl := Option.some.inj h
    exact hret _ _ _ _ hw rfl dX11_answers_17
  · rw [if_neg t1] at h
    refine lv_aload_n hx hb dX11_answers_8 rfl (lv_at hl 0 rfl) ?_
    refine lv_iload_n hx hb dX11_answers_9 rfl (lv_at hl 2 rfl) ?_
    refine z_cVi (As := [.int x2]) (rest := []) ⟨hx, hb, hml, hown, hts⟩ hK hw hA (kX11_isEnd l D g ad σ x2 _ rfl) (zcwV 1 hts zgoodIn zw_968 zw_970 zw_31 zw_64 zw_971 rfl rfl hX11_isEnd ⟨Nat.le_of_ble_eq_true rfl, Nat.le_of_ble_eq_true rfl⟩) zO1_0 rfl hl.1 rfl (Nat.le_of_ble_eq_true rfl) dX11_answers_10 ⟨Nat.zero_le _, Nat.zero_le _⟩ (fun H locs hw => ?_)
    refine lv_if_ne (tgt := 18) hx hb dX11_answers_13 (by decide) (fun t2 => ?_) (fun t2 => ?_)
    · rw [if_neg t2] at h
      refine lv_aload_n hx hb dX11_answers_18 rfl (lv_at hl 0 rfl) ?_
      refine z_geti hx hb hts zin_X11 hown hK hw zF1_0_16 (hts _ zw_854) dX11_answers_19 ?_
      refine lv_if_eq (tgt := 34) hx hb dX11_answers_22 (by decide) (fun t3 => ?_) (fun t3 => ?_)
      · rw [if_pos t3] at h
        refine lv_bipush (v := (-3)) hx hb dX11_answers_34 (by decide) ?_
        obtain rfl := Option.some.inj h
        exact hret _ _ _ _ hw rfl dX11_answers_36
      · rw [if_neg t3] at h
        refine lv_aload_n hx hb dX11_answers_25 rfl (lv_at hl 0 rfl) ?_
        refine lv_iload_n hx hb dX11_answers_26 rfl (lv_at hl 1 rfl) ?_
        refine lv_iload_n hx hb dX11_answers_27 rfl (lv_at hl 2 rfl) ?_
        obtain ⟨r4, e5, h⟩ := zbind h
        refine z_cVi (As := [.int x1, .int x2]) (rest := []) ⟨hx, hb, hml, hown, hts⟩ hK hw hA (kX11_answered l D g ad σ x1 x2 r4 e5) (zcwV 2 hts zgoodIn zw_1057 zw_1059 zw_39 zw_64 zw_1060 rfl rfl hX11_answered ⟨Nat.le_of_ble_eq_true rfl, Nat.le_of_ble_eq_true rfl⟩) zO1_0 rfl hl.1 rfl (Nat.le_of_ble_eq_true rfl) dX11_answers_28 ⟨Nat.zero_le _, Nat.zero_le _⟩ (fun H locs hw => ?_)
        refine lv_goto (tgt := 36) hx hb dX11_answers_31 (by decide) ?_
        obtain rfl := Option.some.inj h
        exact hret _ _ _ _ hw rfl dX11_answers_36
    · rw [if_pos t2] at h
      refine lv_iconst (v := (-1)) hx hb dX11_answers_16 (by decide) ?_
      obtain rfl := Option.some.inj h
      exact hret _ _ _ _ hw rfl dX11_answers_17
