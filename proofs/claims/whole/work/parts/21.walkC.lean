/-! walks: X3_saidAndHeard, X3_heardTimes, X3_nothing, X3_reachedTimes, X3_saidTimes, X3_overTimes, X3_bestOver, X3_truth, X4_clear, X4_isFull, X4_nextLine, X4_keepLine, X4_weighOne, X4_weighYes, X4_fewerThan, X4_minutesOf, X4_gainOf, X4_isBetter, X4_bestSet, X5_open, X5_place, X5_takesSign -/
set_option maxHeartbeats 4000000 in
set_option maxRecDepth 100000 in
theorem wX3_saidAndHeard_6 {p : Program} {l : Launch} {e : Env} {s : State} {m : MethodId} {args : Array Value} {below : List Frame} {meth : Method} {c : Code} {A : Nat → Prop} {H0 : Heap} {Q : State → Prop} {D : va_G} {g : zG} {ad : Nat → Nat} (C : zCx p c cX3_saidAndHeard s args RX3 m 6 A H0 D g) (σ : zSt) (x1 : Int32) (x2 : Int32) (x3 : Int32) (n : Nat) (a : (Int32 × Int32)) (b : (Int32 × Int32)) (h : zLp (fun a => bX3_saidAndHeard_6 σ x1 x2 x3 a.1 a.2) n a = some b) (hk : ∀ (H : Heap) (locs : List Loc) (ls : Array Slot), zH D g 0 ad A H0 σ H locs → lv_has ls 6 [(0, .ref (ad 6)), (1, .int x1), (2, .int x2), (3, .int x3), (4, .int b.1), (5, .int b.2)] → W p l e (zRm 1) s m args below meth c H locs 0 0 Q (F0 m 38 ls [])) : ∀ (H : Heap) (locs : List Loc) (ls : Array Slot), zH D g 0 ad A H0 σ H locs → lv_has ls 6 [(0, .ref (ad 6)), (1, .int x1), (2, .int x2), (3, .int x3), (4, .int a.1), (5, .int a.2)] → W p l e (zRm 1) s m args below meth c H locs 0 0 Q (F0 m 6 ls []) := by
  obtain ⟨hx, hb, hml, hown, hts, hK, hA⟩ := id C
  refine zLp_walk (P := fun (a : (Int32 × Int32)) => ∀ (H : Heap) (locs : List Loc) (ls : Array Slot), zH D g 0 ad A H0 σ H locs → lv_has ls 6 [(0, .ref (ad 6)), (1, .int x1), (2, .int x2), (3, .int x3), (4, .int a.1), (5, .int a.2)] → W p l e (zRm 1) s m args below meth c H locs 0 0 Q (F0 m 6 ls [])) (E := fun (b' : (Int32 × Int32)) => b' = b) ?_ n a b h rfl
  intro a r h hn he H locs ls hw hl
  obtain ⟨x4, x5⟩ := a
  have h : bX3_saidAndHeard_6 σ x1 x2 x3 x4 x5 = some r := h
  have hl : lv_has ls 6 [(0, .ref (ad 6)), (1, .int x1), (2, .int x2), (3, .int x3), (4, .int x4), (5, .int x5)] := hl
  have hw : zH D g 0 ad A H0 σ H locs := hw
  unfold bX3_saidAndHeard_6 at h
  refine lv_iload hx hb dX3_saidAndHeard_6 (lv_at hl 5 rfl) ?_
  refine lv_aload_n hx hb dX3_saidAndHeard_8 rfl (lv_at hl 0 rfl) ?_
  refine z_getc hx hb hts zin_X3 hown hK hw zF0_6_0 (hts _ zw_201) dX3_saidAndHeard_9 ?_
  refine z_geti hx hb hts zin_X8 hown hK hw zF0_3_0 (hts _ zw_138) dX3_saidAndHeard_12 ?_
  refine lv_icmp_ge (tgt := 38) hx hb dX3_saidAndHeard_15 (by decide) (fun t1 => ?_) (fun t1 => ?_)
  · rw [if_pos t1] at h
    obtain rfl := Option.some.inj h
    obtain rfl := he _ rfl
    exact hk _ _ _ hw (lv_sub hl [0, 1, 2, 3, 4, 5] rfl)
  · rw [if_neg t1] at h
    refine lv_iload hx hb dX3_saidAndHeard_18 (lv_at hl 4 rfl) ?_
    refine lv_aload_n hx hb dX3_saidAndHeard_20 rfl (lv_at hl 0 rfl) ?_
    refine lv_iload_n hx hb dX3_saidAndHeard_21 rfl (lv_at hl 1 rfl) ?_
    refine lv_iload hx hb dX3_saidAndHeard_22 (lv_at hl 5 rfl) ?_
    refine lv_iload_n hx hb dX3_saidAndHeard_24 rfl (lv_at hl 2 rfl) ?_
    refine lv_iload_n hx hb dX3_saidAndHeard_25 rfl (lv_at hl 3 rfl) ?_
    obtain ⟨r2, e3, h⟩ := zbind h
    refine z_cVi (As := [.int x1, .int x5, .int x2, .int x3]) (rest := [.int x4]) ⟨hx, hb, hml, hown, hts⟩ hK hw hA (kX3_passing l D g ad σ x1 x5 x2 x3 r2 e3) (zcwV 4 hts zgoodIn zw_566 zw_568 zw_11 zw_59 zw_569 rfl rfl hX3_passing ⟨Nat.le_of_ble_eq_true rfl, Nat.le_of_ble_eq_true rfl⟩) zO0_6 rfl hl.1 rfl (Nat.le_of_ble_eq_true rfl) dX3_saidAndHeard_26 ⟨Nat.zero_le _, Nat.zero_le _⟩ (fun H locs hw => ?_)
    refine lv_iadd hx hb dX3_saidAndHeard_29 ?_
    refine lv_istore (lv' := [(4, .int (x4 + r2)), (0, .ref (ad 6)), (1, .int x1), (2, .int x2), (3, .int x3), (5, .int x5)]) hx hb dX3_saidAndHeard_30 hl (by decide) rfl (fun ls hl => ?_)
    refine lv_iinc (v := x5 + 1) (lv' := [(5, .int (x5 + 1)), (4, .int (x4 + r2)), (0, .ref (ad 6)), (1, .int x1), (2, .int x2), (3, .int x3)]) hx hb dX3_saidAndHeard_32 hl (k := 5) rfl rfl (by decide) rfl (fun ls hl => ?_)
    refine lv_goto (tgt := 6) hx hb dX3_saidAndHeard_35 (by decide) ?_
    obtain rfl := Option.some.inj h
    exact hn _ rfl _ _ _ hw (lv_sub hl [2, 3, 4, 5, 1, 0] rfl)
theorem hX3_saidAndHeard : yX3_saidAndHeard.cls = RX3 ∧ yX3_saidAndHeard.cls ≠ "java/lang/invoke/MethodHandle" ∧ yX3_saidAndHeard.cls ≠ "java/lang/invoke/VarHandle" ∧ (parseMethodDescriptor yX3_saidAndHeard.desc).map (fun d => d.parameters.length) = some 3 := by decide +kernel
set_option maxHeartbeats 4000000 in
set_option maxRecDepth 100000 in
theorem kX3_saidAndHeard (l : Launch) (D : va_G) (g : zG) (ad : Nat → Nat) (σ : zSt) (x1 : Int32) (x2 : Int32) (x3 : Int32) (o : Int32) (h : fX3_saidAndHeard σ x1 x2 x3 = some o) : zMi l D g 0 ad yX3_saidAndHeard (Cond.code yX3_saidAndHeard cX3_saidAndHeard 6 (some .int) :: zws) (zRm 1) [.ref (ad 6), .int x1, .int x2, .int x3] σ o σ := by
  refine z_enter_i (by decide) (Nat.le_of_ble_eq_true rfl) ?_
  intro p e s m below meth c A ls Q C hw hl hret
  obtain ⟨hx, hb, hml, hown, hts, hK, hA⟩ := id C
  have hown : s.vm.findClass RX3 = some m.cls := hown
  have C : zCx p c cX3_saidAndHeard s _ RX3 m 6 A s.heap D g := C
  have hl : lv_has ls 6 [(0, .ref (ad 6)), (1, .int x1), (2, .int x2), (3, .int x3)] := hl
  unfold fX3_saidAndHeard at h
  refine lv_iconst (v := 0) hx hb dX3_saidAndHeard_0 (by decide) ?_
  refine lv_istore (lv' := [(4, .int (0 : Int32)), (0, .ref (ad 6)), (1, .int x1), (2, .int x2), (3, .int x3)]) hx hb dX3_saidAndHeard_1 hl (by decide) rfl (fun ls hl => ?_)
  refine lv_iconst (v := 0) hx hb dX3_saidAndHeard_3 (by decide) ?_
  refine lv_istore (lv' := [(5, .int (0 : Int32)), (4, .int (0 : Int32)), (0, .ref (ad 6)), (1, .int x1), (2, .int x2), (3, .int x3)]) hx hb dX3_saidAndHeard_4 hl (by decide) rfl (fun ls hl => ?_)
  obtain ⟨b1, e2, h⟩ := zbind h
  refine wX3_saidAndHeard_6 C σ x1 x2 x3 zFU ((0 : Int32), (0 : Int32)) b1 e2 (fun H locs ls hw hl => ?_) _ _ _ hw (lv_sub hl [2, 3, 4, 5, 1, 0] rfl)
  have hl : lv_has ls 6 [(0, .ref (ad 6)), (1, .int x1), (2, .int x2), (3, .int x3), (4, .int b1.1), (5, .int b1.2)] := hl
  refine lv_iload hx hb dX3_saidAndHeard_38 (lv_at hl 4 rfl) ?_
  obtain rfl := Option.some.inj h
  exact hret _ _ _ _ hw rfl dX3_saidAndHeard_40
set_option maxHeartbeats 4000000 in
set_option maxRecDepth 100000 in
theorem wX3_heardTimes_5 {p : Program} {l : Launch} {e : Env} {s : State} {m : MethodId} {args : Array Value} {below : List Frame} {meth : Method} {c : Code} {A : Nat → Prop} {H0 : Heap} {Q : State → Prop} {D : va_G} {g : zG} {ad : Nat → Nat} (C : zCx p c cX3_heardTimes s args RX3 m 5 A H0 D g) (σ : zSt) (x1 : Int32) (x2 : Int32) (n : Nat) (a : (Int32 × Int32)) (b : (Int32 × Int32)) (h : zLp (fun a => bX3_heardTimes_5 σ x1 x2 a.1 a.2) n a = some b) (hk : ∀ (H : Heap) (locs : List Loc) (ls : Array Slot), zH D g 0 ad A H0 σ H locs → lv_has ls 5 [(0, .ref (ad 6)), (1, .int x1), (2, .int x2), (3, .int b.1), (4, .int b.2)] → W p l e (zRm 2) s m args below meth c H locs 0 0 Q (F0 m 34 ls [])) : ∀ (H : Heap) (locs : List Loc) (ls : Array Slot), zH D g 0 ad A H0 σ H locs → lv_has ls 5 [(0, .ref (ad 6)), (1, .int x1), (2, .int x2), (3, .int a.1), (4, .int a.2)] → W p l e (zRm 2) s m args below meth c H locs 0 0 Q (F0 m 5 ls []) := by
  obtain ⟨hx, hb, hml, hown, hts, hK, hA⟩ := id C
  refine zLp_walk (P := fun (a : (Int32 × Int32)) => ∀ (H : Heap) (locs : List Loc) (ls : Array Slot), zH D g 0 ad A H0 σ H locs → lv_has ls 5 [(0, .ref (ad 6)), (1, .int x1), (2, .int x2), (3, .int a.1), (4, .int a.2)] → W p l e (zRm 2) s m args below meth c H locs 0 0 Q (F0 m 5 ls [])) (E := fun (b' : (Int32 × Int32)) => b' = b) ?_ n a b h rfl
  intro a r h hn he H locs ls hw hl
  obtain ⟨x3, x4⟩ := a
  have h : bX3_heardTimes_5 σ x1 x2 x3 x4 = some r := h
  have hl : lv_has ls 5 [(0, .ref (ad 6)), (1, .int x1), (2, .int x2), (3, .int x3), (4, .int x4)] := hl
  have hw : zH D g 0 ad A H0 σ H locs := hw
  unfold bX3_heardTimes_5 at h
  refine lv_iload hx hb dX3_heardTimes_5 (lv_at hl 4 rfl) ?_
  refine lv_aload_n hx hb dX3_heardTimes_7 rfl (lv_at hl 0 rfl) ?_
  refine z_getc hx hb hts zin_X3 hown hK hw zF0_6_0 (hts _ zw_201) dX3_heardTimes_8 ?_
  refine z_geti hx hb hts zin_X8 hown hK hw zF0_3_0 (hts _ zw_138) dX3_heardTimes_11 ?_
  refine lv_icmp_ge (tgt := 34) hx hb dX3_heardTimes_14 (by decide) (fun t1 => ?_) (fun t1 => ?_)
  · rw [if_pos t1] at h
    obtain rfl := Option.some.inj h
    obtain rfl := he _ rfl
    exact hk _ _ _ hw (lv_sub hl [0, 1, 2, 3, 4] rfl)
  · rw [if_neg t1] at h
    refine lv_iload_n hx hb dX3_heardTimes_17 rfl (lv_at hl 3 rfl) ?_
    refine lv_aload_n hx hb dX3_heardTimes_18 rfl (lv_at hl 0 rfl) ?_
    refine lv_iload_n hx hb dX3_heardTimes_19 rfl (lv_at hl 1 rfl) ?_
    refine lv_iload hx hb dX3_heardTimes_20 (lv_at hl 4 rfl) ?_
    refine lv_iload_n hx hb dX3_heardTimes_22 rfl (lv_at hl 2 rfl) ?_
    obtain ⟨r2, e3, h⟩ := zbind h
    refine z_cVi (As := [.int x1, .int x4, .int x2]) (rest := [.int x3]) ⟨hx, hb, hml, hown, hts⟩ hK hw hA (kX3_saidAndHeard l D g ad σ x1 x4 x2 r2 e3) (zcwV 3 hts zgoodIn zw_562 zw_564 zw_10 zw_59 zw_565 rfl rfl hX3_saidAndHeard ⟨Nat.le_of_ble_eq_true rfl, Nat.le_of_ble_eq_true rfl⟩) zO0_6 rfl hl.1 rfl (Nat.le_of_ble_eq_true rfl) dX3_heardTimes_23 ⟨Nat.zero_le _, Nat.zero_le _⟩ (fun H locs hw => ?_)
    refine lv_iadd hx hb dX3_heardTimes_26 ?_
    refine lv_istore_n (lv' := [(3, .int (x3 + r2)), (0, .ref (ad 6)), (1, .int x1), (2, .int x2), (4, .int x4)]) hx hb dX3_heardTimes_27 rfl hl (by decide) rfl (fun ls hl => ?_)
    refine lv_iinc (v := x4 + 1) (lv' := [(4, .int (x4 + 1)), (3, .int (x3 + r2)), (0, .ref (ad 6)), (1, .int x1), (2, .int x2)]) hx hb dX3_heardTimes_28 hl (k := 4) rfl rfl (by decide) rfl (fun ls hl => ?_)
    refine lv_goto (tgt := 5) hx hb dX3_heardTimes_31 (by decide) ?_
    obtain rfl := Option.some.inj h
    exact hn _ rfl _ _ _ hw (lv_sub hl [2, 3, 4, 1, 0] rfl)
theorem hX3_heardTimes : yX3_heardTimes.cls = RX3 ∧ yX3_heardTimes.cls ≠ "java/lang/invoke/MethodHandle" ∧ yX3_heardTimes.cls ≠ "java/lang/invoke/VarHandle" ∧ (parseMethodDescriptor yX3_heardTimes.desc).map (fun d => d.parameters.length) = some 2 := by decide +kernel
set_option maxHeartbeats 4000000 in
set_option maxRecDepth 100000 in
theorem kX3_heardTimes (l : Launch) (D : va_G) (g : zG) (ad : Nat → Nat) (σ : zSt) (x1 : Int32) (x2 : Int32) (o : Int32) (h : fX3_heardTimes σ x1 x2 = some o) : zMi l D g 0 ad yX3_heardTimes (Cond.code yX3_heardTimes cX3_heardTimes 5 (some .int) :: zws) (zRm 2) [.ref (ad 6), .int x1, .int x2] σ o σ := by
  refine z_enter_i (by decide) (Nat.le_of_ble_eq_true rfl) ?_
  intro p e s m below meth c A ls Q C hw hl hret
  obtain ⟨hx, hb, hml, hown, hts, hK, hA⟩ := id C
  have hown : s.vm.findClass RX3 = some m.cls := hown
  have C : zCx p c cX3_heardTimes s _ RX3 m 5 A s.heap D g := C
  have hl : lv_has ls 5 [(0, .ref (ad 6)), (1, .int x1), (2, .int x2)] := hl
  unfold fX3_heardTimes at h
  refine lv_iconst (v := 0) hx hb dX3_heardTimes_0 (by decide) ?_
  refine lv_istore_n (lv' := [(3, .int (0 : Int32)), (0, .ref (ad 6)), (1, .int x1), (2, .int x2)]) hx hb dX3_heardTimes_1 rfl hl (by decide) rfl (fun ls hl => ?_)
  refine lv_iconst (v := 0) hx hb dX3_heardTimes_2 (by decide) ?_
  refine lv_istore (lv' := [(4, .int (0 : Int32)), (3, .int (0 : Int32)), (0, .ref (ad 6)), (1, .int x1), (2, .int x2)]) hx hb dX3_heardTimes_3 hl (by decide) rfl (fun ls hl => ?_)
  obtain ⟨b1, e2, h⟩ := zbind h
  refine wX3_heardTimes_5 C σ x1 x2 zFU ((0 : Int32), (0 : Int32)) b1 e2 (fun H locs ls hw hl => ?_) _ _ _ hw (lv_sub hl [2, 3, 4, 1, 0] rfl)
  have hl : lv_has ls 5 [(0, .ref (ad 6)), (1, .int x1), (2, .int x2), (3, .int b1.1), (4, .int b1.2)] := hl
  refine lv_iload_n hx hb dX3_heardTimes_34 rfl (lv_at hl 3 rfl) ?_
  obtain rfl := Option.some.inj h
  exact hret _ _ _ _ hw rfl dX3_heardTimes_35
set_option maxHeartbeats 4000000 in
set_option maxRecDepth 100000 in
theorem wX3_nothing_5 {p : Program} {l : Launch} {e : Env} {s : State} {m : MethodId} {args : Array Value} {below : List Frame} {meth : Method} {c : Code} {A : Nat → Prop} {H0 : Heap} {Q : State → Prop} {D : va_G} {g : zG} {ad : Nat → Nat} (C : zCx p c cX3_nothing s args RX3 m 4 A H0 D g) (σ : zSt) (x1 : Int32) (n : Nat) (a : (Int32 × Int32)) (b : (Int32 × Int32)) (h : zLp (fun a => bX3_nothing_5 σ x1 a.1 a.2) n a = some b) (hk : ∀ (H : Heap) (locs : List Loc) (ls : Array Slot), zH D g 0 ad A H0 σ H locs → lv_has ls 4 [(0, .ref (ad 6)), (1, .int x1), (2, .int b.1), (3, .int b.2)] → W p l e (zRm 3) s m args below meth c H locs 0 0 Q (F0 m 31 ls [])) : ∀ (H : Heap) (locs : List Loc) (ls : Array Slot), zH D g 0 ad A H0 σ H locs → lv_has ls 4 [(0, .ref (ad 6)), (1, .int x1), (2, .int a.1), (3, .int a.2)] → W p l e (zRm 3) s m args below meth c H locs 0 0 Q (F0 m 5 ls []) := by
  obtain ⟨hx, hb, hml, hown, hts, hK, hA⟩ := id C
  refine zLp_walk (P := fun (a : (Int32 × Int32)) => ∀ (H : Heap) (locs : List Loc) (ls : Array Slot), zH D g 0 ad A H0 σ H locs → lv_has ls 4 [(0, .ref (ad 6)), (1, .int x1), (2, .int a.1), (3, .int a.2)] → W p l e (zRm 3) s m args below meth c H locs 0 0 Q (F0 m 5 ls [])) (E := fun (b' : (Int32 × Int32)) => b' = b) ?_ n a b h rfl
  intro a r h hn he H locs ls hw hl
  obtain ⟨x2, x3⟩ := a
  have h : bX3_nothing_5 σ x1 x2 x3 = some r := h
  have hl : lv_has ls 4 [(0, .ref (ad 6)), (1, .int x1), (2, .int x2), (3, .int x3)] := hl
  have hw : zH D g 0 ad A H0 σ H locs := hw
  unfold bX3_nothing_5 at h
  refine lv_iload_n hx hb dX3_nothing_5 rfl (lv_at hl 3 rfl) ?_
  refine lv_aload_n hx hb dX3_nothing_6 rfl (lv_at hl 0 rfl) ?_
  refine z_getc hx hb hts zin_X3 hown hK hw zF0_6_0 (hts _ zw_201) dX3_nothing_7 ?_
  refine z_geti hx hb hts zin_X8 hown hK hw zF0_3_0 (hts _ zw_138) dX3_nothing_10 ?_
  refine lv_icmp_ge (tgt := 31) hx hb dX3_nothing_13 (by decide) (fun t1 => ?_) (fun t1 => ?_)
  · rw [if_pos t1] at h
    obtain rfl := Option.some.inj h
    obtain rfl := he _ rfl
    exact hk _ _ _ hw (lv_sub hl [0, 1, 2, 3] rfl)
  · rw [if_neg t1] at h
    refine lv_iload_n hx hb dX3_nothing_16 rfl (lv_at hl 2 rfl) ?_
    refine lv_aload_n hx hb dX3_nothing_17 rfl (lv_at hl 0 rfl) ?_
    refine lv_iload_n hx hb dX3_nothing_18 rfl (lv_at hl 1 rfl) ?_
    refine lv_iload_n hx hb dX3_nothing_19 rfl (lv_at hl 3 rfl) ?_
    obtain ⟨r2, e3, h⟩ := zbind h
    refine z_cVi (As := [.int x1, .int x3]) (rest := [.int x2]) ⟨hx, hb, hml, hown, hts⟩ hK hw hA (kX3_heardTimes l D g ad σ x1 x3 r2 e3) (zcwV 2 hts zgoodIn zw_558 zw_559 zw_560 zw_59 zw_561 rfl rfl hX3_heardTimes ⟨Nat.le_of_ble_eq_true rfl, Nat.le_of_ble_eq_true rfl⟩) zO0_6 rfl hl.1 rfl (Nat.le_of_ble_eq_true rfl) dX3_nothing_20 ⟨Nat.zero_le _, Nat.zero_le _⟩ (fun H locs hw => ?_)
    refine lv_isub hx hb dX3_nothing_23 ?_
    refine lv_istore_n (lv' := [(2, .int (x2 - r2)), (0, .ref (ad 6)), (1, .int x1), (3, .int x3)]) hx hb dX3_nothing_24 rfl hl (by decide) rfl (fun ls hl => ?_)
    refine lv_iinc (v := x3 + 1) (lv' := [(3, .int (x3 + 1)), (2, .int (x2 - r2)), (0, .ref (ad 6)), (1, .int x1)]) hx hb dX3_nothing_25 hl (k := 3) rfl rfl (by decide) rfl (fun ls hl => ?_)
    refine lv_goto (tgt := 5) hx hb dX3_nothing_28 (by decide) ?_
    obtain rfl := Option.some.inj h
    exact hn _ rfl _ _ _ hw (lv_sub hl [2, 3, 1, 0] rfl)
theorem hX3_nothing : yX3_nothing.cls = RX3 ∧ yX3_nothing.cls ≠ "java/lang/invoke/MethodHandle" ∧ yX3_nothing.cls ≠ "java/lang/invoke/VarHandle" ∧ (parseMethodDescriptor yX3_nothing.desc).map (fun d => d.parameters.length) = some 1 := by decide +kernel
set_option maxHeartbeats 4000000 in
set_option maxRecDepth 100000 in
theorem kX3_nothing (l : Launch) (D : va_G) (g : zG) (ad : Nat → Nat) (σ : zSt) (x1 : Int32) (o : Int32) (h : fX3_nothing σ x1 = some o) : zMi l D g 0 ad yX3_nothing (Cond.code yX3_nothing cX3_nothing 4 (some .int) :: zws) (zRm 3) [.ref (ad 6), .int x1] σ o σ := by
  refine z_enter_i (by decide) (Nat.le_of_ble_eq_true rfl) ?_
  intro p e s m below meth c A ls Q C hw hl hret
  obtain ⟨hx, hb, hml, hown, hts, hK, hA⟩ := id C
  have hown : s.vm.findClass RX3 = some m.cls := hown
  have C : zCx p c cX3_nothing s _ RX3 m 4 A s.heap D g := C
  have hl : lv_has ls 4 [(0, .ref (ad 6)), (1, .int x1)] := hl
  unfold fX3_nothing at h
  refine lv_ldc hx hb hown (hts _ zw_557) dX3_nothing_0 ?_
  refine lv_istore_n (lv' := [(2, .int (2985984 : Int32)), (0, .ref (ad 6)), (1, .int x1)]) hx hb dX3_nothing_2 rfl hl (by decide) rfl (fun ls hl => ?_)
  refine lv_iconst (v := 0) hx hb dX3_nothing_3 (by decide) ?_
  refine lv_istore_n (lv' := [(3, .int (0 : Int32)), (2, .int (2985984 : Int32)), (0, .ref (ad 6)), (1, .int x1)]) hx hb dX3_nothing_4 rfl hl (by decide) rfl (fun ls hl => ?_)
  obtain ⟨b1, e2, h⟩ := zbind h
  refine wX3_nothing_5 C σ x1 zFU ((2985984 : Int32), (0 : Int32)) b1 e2 (fun H locs ls hw hl => ?_) _ _ _ hw (lv_sub hl [2, 3, 1, 0] rfl)
  have hl : lv_has ls 4 [(0, .ref (ad 6)), (1, .int x1), (2, .int b1.1), (3, .int b1.2)] := hl
  refine lv_iload_n hx hb dX3_nothing_31 rfl (lv_at hl 2 rfl) ?_
  obtain rfl := Option.some.inj h
  exact hret _ _ _ _ hw rfl dX3_nothing_32
set_option maxHeartbeats 4000000 in
set_option maxRecDepth 100000 in
theorem wX3_reachedTimes_16 {p : Program} {l : Launch} {e : Env} {s : State} {m : MethodId} {args : Array Value} {below : List Frame} {meth : Method} {c : Code} {A : Nat → Prop} {H0 : Heap} {Q : State → Prop} {D : va_G} {g : zG} {ad : Nat → Nat} (C : zCx p c cX3_reachedTimes s args RX3 m 6 A H0 D g) (σ : zSt) (x1 : Int32) (x2 : Int32) (x3 : Int32) (n : Nat) (a : (Int32 × Int32)) (b : (Int32 × Int32)) (h : zLp (fun a => bX3_reachedTimes_16 σ x1 x2 x3 a.1 a.2) n a = some b) (hk : ∀ (H : Heap) (locs : List Loc) (ls : Array Slot), zH D g 0 ad A H0 σ H locs → lv_has ls 6 [(0, .ref (ad 6)), (1, .int x1), (2, .int x2), (3, .int x3), (4, .int b.1), (5, .int b.2)] → W p l e (zRm 1) s m args below meth c H locs 0 0 Q (F0 m 48 ls [])) : ∀ (H : Heap) (locs : List Loc) (ls : Array Slot), zH D g 0 ad A H0 σ H locs → lv_has ls 6 [(0, .ref (ad 6)), (1, .int x1), (2, .int x2), (3, .int x3), (4, .int a.1), (5, .int a.2)] → W p l e (zRm 1) s m args below meth c H locs 0 0 Q (F0 m 16 ls []) := by
  obtain ⟨hx, hb, hml, hown, hts, hK, hA⟩ := id C
  refine zLp_walk (P := fun (a : (Int32 × Int32)) => ∀ (H : Heap) (locs : List Loc) (ls : Array Slot), zH D g 0 ad A H0 σ H locs → lv_has ls 6 [(0, .ref (ad 6)), (1, .int x1), (2, .int x2), (3, .int x3), (4, .int a.1), (5, .int a.2)] → W p l e (zRm 1) s m args below meth c H locs 0 0 Q (F0 m 16 ls [])) (E := fun (b' : (Int32 × Int32)) => b' = b) ?_ n a b h rfl
  intro a r h hn he H locs ls hw hl
  obtain ⟨x4, x5⟩ := a
  have h : bX3_reachedTimes_16 σ x1 x2 x3 x4 x5 = some r := h
  have hl : lv_has ls 6 [(0, .ref (ad 6)), (1, .int x1), (2, .int x2), (3, .int x3), (4, .int x4), (5, .int x5)] := hl
  have hw : zH D g 0 ad A H0 σ H locs := hw
  unfold bX3_reachedTimes_16 at h
  refine lv_iload hx hb dX3_reachedTimes_16 (lv_at hl 5 rfl) ?_
  refine lv_aload_n hx hb dX3_reachedTimes_18 rfl (lv_at hl 0 rfl) ?_
  refine z_getc hx hb hts zin_X3 hown hK hw zF0_6_0 (hts _ zw_201) dX3_reachedTimes_19 ?_
  refine z_geti hx hb hts zin_X8 hown hK hw zF0_3_0 (hts _ zw_138) dX3_reachedTimes_22 ?_
  refine lv_icmp_ge (tgt := 48) hx hb dX3_reachedTimes_25 (by decide) (fun t1 => ?_) (fun t1 => ?_)
  · rw [if_pos t1] at h
    obtain rfl := Option.some.inj h
    obtain rfl := he _ rfl
    exact hk _ _ _ hw (lv_sub hl [0, 1, 2, 3, 4, 5] rfl)
  · rw [if_neg t1] at h
    refine lv_iload hx hb dX3_reachedTimes_28 (lv_at hl 4 rfl) ?_
    refine lv_aload_n hx hb dX3_reachedTimes_30 rfl (lv_at hl 0 rfl) ?_
    refine lv_iload_n hx hb dX3_reachedTimes_31 rfl (lv_at hl 1 rfl) ?_
    refine lv_iload_n hx hb dX3_reachedTimes_32 rfl (lv_at hl 3 rfl) ?_
    refine lv_iload hx hb dX3_reachedTimes_33 (lv_at hl 5 rfl) ?_
    refine lv_iload_n hx hb dX3_reachedTimes_35 rfl (lv_at hl 2 rfl) ?_
    obtain ⟨r2, e3, h⟩ := zbind h
    refine z_cVi (As := [.int x1, .int x3, .int x5, .int x2]) (rest := [.int x4]) ⟨hx, hb, hml, hown, hts⟩ hK hw hA (kX3_passing l D g ad σ x1 x3 x5 x2 r2 e3) (zcwV 4 hts zgoodIn zw_566 zw_568 zw_11 zw_59 zw_569 rfl rfl hX3_passing ⟨Nat.le_of_ble_eq_true rfl, Nat.le_of_ble_eq_true rfl⟩) zO0_6 rfl hl.1 rfl (Nat.le_of_ble_eq_true rfl) dX3_reachedTimes_36 ⟨Nat.zero_le _, Nat.zero_le _⟩ (fun H locs hw => ?_)
    refine lv_iadd hx hb dX3_reachedTimes_39 ?_
    refine lv_istore (lv' := [(4, .int (x4 + r2)), (0, .ref (ad 6)), (1, .int x1), (2, .int x2), (3, .int x3), (5, .int x5)]) hx hb dX3_reachedTimes_40 hl (by decide) rfl (fun ls hl => ?_)
    refine lv_iinc (v := x5 + 1) (lv' := [(5, .int (x5 + 1)), (4, .int (x4 + r2)), (0, .ref (ad 6)), (1, .int x1), (2, .int x2), (3, .int x3)]) hx hb dX3_reachedTimes_42 hl (k := 5) rfl rfl (by decide) rfl (fun ls hl => ?_)
    refine lv_goto (tgt := 16) hx hb dX3_reachedTimes_45 (by decide) ?_
    obtain rfl := Option.some.inj h
    exact hn _ rfl _ _ _ hw (lv_sub hl [2, 3, 4, 5, 1, 0] rfl)
theorem hX3_reachedTimes : yX3_reachedTimes.cls = RX3 ∧ yX3_reachedTimes.cls ≠ "java/lang/invoke/MethodHandle" ∧ yX3_reachedTimes.cls ≠ "java/lang/invoke/VarHandle" ∧ (parseMethodDescriptor yX3_reachedTimes.desc).map (fun d => d.parameters.length) = some 2 := by decide +kernel
set_option maxHeartbeats 4000000 in
set_option maxRecDepth 100000 in
theorem kX3_reachedTimes (l : Launch) (D : va_G) (g : zG) (ad : Nat → Nat) (σ : zSt) (x1 : Int32) (x2 : Int32) (o : Int32) (h : fX3_reachedTimes σ x1 x2 = some o) : zMi l D g 0 ad yX3_reachedTimes (Cond.code yX3_reachedTimes cX3_reachedTimes 6 (some .int) :: zws) (zRm 1) [.ref (ad 6), .int x1, .int x2] σ o σ := by
  refine z_enter_i (by decide) (Nat.le_of_ble_eq_true rfl) ?_
  intro p e s m below meth c A ls Q C hw hl hret
  obtain ⟨hx, hb, hml, hown, hts, hK, hA⟩ := id C
  have hown : s.vm.findClass RX3 = some m.cls := hown
  have C : zCx p c cX3_reachedTimes s _ RX3 m 6 A s.heap D g := C
  have hl : lv_has ls 6 [(0, .ref (ad 6)), (1, .int x1), (2, .int x2)] := hl
  unfold fX3_reachedTimes at h
  refine lv_aload_n hx hb dX3_reachedTimes_0 rfl (lv_at hl 0 rfl) ?_
  refine z_getc hx hb hts zin_X3 hown hK hw zF0_6_0 (hts _ zw_201) dX3_reachedTimes_1 ?_
  refine lv_iconst (v := 0) hx hb dX3_reachedTimes_4 (by decide) ?_
  refine lv_iload_n hx hb dX3_reachedTimes_5 rfl (lv_at hl 1 rfl) ?_
  obtain ⟨r1, e2, h⟩ := zbind h
  refine z_cVi (As := [.int (0 : Int32), .int x1]) (rest := []) ⟨hx, hb, hml, hown, hts⟩ hK hw hA (kX8_meaning l D g ad σ (0 : Int32) x1 r1 e2) (zcwV 2 hts zgoodIn zw_584 zw_432 zw_433 zw_56 zw_434 rfl rfl hX8_meaning ⟨Nat.le_of_ble_eq_true rfl, Nat.le_of_ble_eq_true rfl⟩) zO0_3 rfl hl.1 rfl (Nat.le_of_ble_eq_true rfl) dX3_reachedTimes_6 ⟨Nat.zero_le _, Nat.zero_le _⟩ (fun H locs hw => ?_)
  refine lv_istore_n (lv' := [(3, .int r1), (0, .ref (ad 6)), (1, .int x1), (2, .int x2)]) hx hb dX3_reachedTimes_9 rfl hl (by decide) rfl (fun ls hl => ?_)
  refine lv_iconst (v := 0) hx hb dX3_reachedTimes_10 (by decide) ?_
  refine lv_istore (lv' := [(4, .int (0 : Int32)), (3, .int r1), (0, .ref (ad 6)), (1, .int x1), (2, .int x2)]) hx hb dX3_reachedTimes_11 hl (by decide) rfl (fun ls hl => ?_)
  refine lv_iconst (v := 0) hx hb dX3_reachedTimes_13 (by decide) ?_
  refine lv_istore (lv' := [(5, .int (0 : Int32)), (4, .int (0 : Int32)), (3, .int r1), (0, .ref (ad 6)), (1, .int x1), (2, .int x2)]) hx hb dX3_reachedTimes_14 hl (by decide) rfl (fun ls hl => ?_)
  obtain ⟨b3, e4, h⟩ := zbind h
  refine wX3_reachedTimes_16 C σ x1 x2 r1 zFU ((0 : Int32), (0 : Int32)) b3 e4 (fun H locs ls hw hl => ?_) _ _ _ hw (lv_sub hl [3, 4, 5, 2, 1, 0] rfl)
  have hl : lv_has ls 6 [(0, .ref (ad 6)), (1, .int x1), (2, .int x2), (3, .int r1), (4, .int b3.1), (5, .int b3.2)] := hl
  refine lv_iload hx hb dX3_reachedTimes_48 (lv_at hl 4 rfl) ?_
  obtain rfl := Option.some.inj h
  exact hret _ _ _ _ hw rfl dX3_reachedTimes_50
set_option maxHeartbeats 4000000 in
set_option maxRecDepth 100000 in
theorem wX3_saidTimes_5 {p : Program} {l : Launch} {e : Env} {s : State} {m : MethodId} {args : Array Value} {below : List Frame} {meth : Method} {c : Code} {A : Nat → Prop} {H0 : Heap} {Q : State → Prop} {D : va_G} {g : zG} {ad : Nat → Nat} (C : zCx p c cX3_saidTimes s args RX3 m 5 A H0 D g) (σ : zSt) (x1 : Int32) (x2 : Int32) (n : Nat) (a : (Int32 × Int32)) (b : (Int32 × Int32)) (h : zLp (fun a => bX3_saidTimes_5 σ x1 x2 a.1 a.2) n a = some b) (hk : ∀ (H : Heap) (locs : List Loc) (ls : Array Slot), zH D g 0 ad A H0 σ H locs → lv_has ls 5 [(0, .ref (ad 6)), (1, .int x1), (2, .int x2), (3, .int b.1), (4, .int b.2)] → W p l e (zRm 2) s m args below meth c H locs 0 0 Q (F0 m 48 ls [])) : ∀ (H : Heap) (locs : List Loc) (ls : Array Slot), zH D g 0 ad A H0 σ H locs → lv_has ls 5 [(0, .ref (ad 6)), (1, .int x1), (2, .int x2), (3, .int a.1), (4, .int a.2)] → W p l e (zRm 2) s m args below meth c H locs 0 0 Q (F0 m 5 ls []) := by
  obtain ⟨hx, hb, hml, hown, hts, hK, hA⟩ := id C
  refine zLp_walk (P := fun (a : (Int32 × Int32)) => ∀ (H : Heap) (locs : List Loc) (ls : Array Slot), zH D g 0 ad A H0 σ H locs → lv_has ls 5 [(0, .ref (ad 6)), (1, .int x1), (2, .int x2), (3, .int a.1), (4, .int a.2)] → W p l e (zRm 2) s m args below meth c H locs 0 0 Q (F0 m 5 ls [])) (E := fun (b' : (Int32 × Int32)) => b' = b) ?_ n a b h rfl
  intro a r h hn he H locs ls hw hl
  obtain ⟨x3, x4⟩ := a
  have h : bX3_saidTimes_5 σ x1 x2 x3 x4 = some r := h
  have hl : lv_has ls 5 [(0, .ref (ad 6)), (1, .int x1), (2, .int x2), (3, .int x3), (4, .int x4)] := hl
  have hw : zH D g 0 ad A H0 σ H locs := hw
  unfold bX3_saidTimes_5 at h
  refine lv_iload hx hb dX3_saidTimes_5 (lv_at hl 4 rfl) ?_
  refine lv_aload_n hx hb dX3_saidTimes_7 rfl (lv_at hl 0 rfl) ?_
  refine z_getc hx hb hts zin_X3 hown hK hw zF0_6_0 (hts _ zw_201) dX3_saidTimes_8 ?_
  refine z_geti hx hb hts zin_X8 hown hK hw zF0_3_0 (hts _ zw_138) dX3_saidTimes_11 ?_
  refine lv_icmp_ge (tgt := 48) hx hb dX3_saidTimes_14 (by decide) (fun t1 => ?_) (fun t1 => ?_)
  · rw [if_pos t1] at h
    obtain rfl := Option.some.inj h
    obtain rfl := he _ rfl
    exact hk _ _ _ hw (lv_sub hl [0, 1, 2, 3, 4] rfl)
  · rw [if_neg t1] at h
    refine lv_aload_n hx hb dX3_saidTimes_17 rfl (lv_at hl 0 rfl) ?_
    refine z_getc hx hb hts zin_X3 hown hK hw zF0_6_0 (hts _ zw_201) dX3_saidTimes_18 ?_
    refine lv_iconst (v := 1) hx hb dX3_saidTimes_21 (by decide) ?_
    refine lv_iload hx hb dX3_saidTimes_22 (lv_at hl 4 rfl) ?_
    obtain ⟨r2, e3, h⟩ := zbind h
    refine z_cVi (As := [.int (1 : Int32), .int x4]) (rest := []) ⟨hx, hb, hml, hown, hts⟩ hK hw hA (kX8_meaning l D g ad σ (1 : Int32) x4 r2 e3) (zcwV 2 hts zgoodIn zw_584 zw_432 zw_433 zw_56 zw_434 rfl rfl hX8_meaning ⟨Nat.le_of_ble_eq_true rfl, Nat.le_of_ble_eq_true rfl⟩) zO0_3 rfl hl.1 rfl (Nat.le_of_ble_eq_true rfl) dX3_saidTimes_24 ⟨Nat.zero_le _, Nat.zero_le _⟩ (fun H locs hw => ?_)
    refine lv_iload_n hx hb dX3_saidTimes_27 rfl (lv_at hl 2 rfl) ?_
    refine lv_icmp_ne (tgt := 42) hx hb dX3_saidTimes_28 (by decide) (fun t4 => ?_) (fun t4 => ?_)
    · rw [if_neg t4] at h
      refine lv_iinc (v := x4 + 1) (lv' := [(4, .int (x4 + 1)), (0, .ref (ad 6)), (1, .int x1), (2, .int x2), (3, .int x3)]) hx hb dX3_saidTimes_42 hl (k := 4) rfl rfl (by decide) rfl (fun ls hl => ?_)
      refine lv_goto (tgt := 5) hx hb dX3_saidTimes_45 (by decide) ?_
      obtain rfl := Option.some.inj h
      exact hn _ rfl _ _ _ hw (lv_sub hl [1, 2, 3, 4, 0] rfl)
    · rw [if_pos t4] at h
      refine lv_iload_n hx hb dX3_saidTimes_31 rfl (lv_at hl 3 rfl) ?_
      refine lv_aload_n hx hb dX3_saidTimes_32 rfl (lv_at hl 0 rfl) ?_
      refine lv_iload_n hx hb dX3_saidTimes_33 rfl (lv_at hl 1 rfl) ?_
      refine lv_iload hx hb dX3_saidTimes_34 (lv_at hl 4 rfl) ?_
      refine lv_iload_n hx hb dX3_saidTimes_36 rfl (lv_at hl 2 rfl) ?_
      obtain ⟨r5, e6, h⟩ := zbind h
      refine z_cVi (As := [.int x1, .int x4, .int x2]) (rest := [.int x3]) ⟨hx, hb, hml, hown, hts⟩ hK hw hA (kX3_saidAndHeard l D g ad σ x1 x4 x2 r5 e6) (zcwV 3 hts zgoodIn zw_562 zw_564 zw_10 zw_59 zw_565 rfl rfl hX3_saidAndHeard ⟨Nat.le_of_ble_eq_true rfl, Nat.le_of_ble_eq_true rfl⟩) zO0_6 rfl hl.1 rfl (Nat.le_of_ble_eq_true rfl) dX3_saidTimes_37 ⟨Nat.zero_le _, Nat.zero_le _⟩ (fun H locs hw => ?_)
      refine lv_iadd hx hb dX3_saidTimes_40 ?_
      refine lv_istore_n (lv' := [(3, .int (x3 + r5)), (0, .ref (ad 6)), (1, .int x1), (2, .int x2), (4, .int x4)]) hx hb dX3_saidTimes_41 rfl hl (by decide) rfl (fun ls hl => ?_)
      refine lv_iinc (v := x4 + 1) (lv' := [(4, .int (x4 + 1)), (3, .int (x3 + r5)), (0, .ref (ad 6)), (1, .int x1), (2, .int x2)]) hx hb dX3_saidTimes_42 hl (k := 4) rfl rfl (by decide) rfl (fun ls hl => ?_)
      refine lv_goto (tgt := 5) hx hb dX3_saidTimes_45 (by decide) ?_
      obtain rfl := Option.some.inj h
      exact hn _ rfl _ _ _ hw (lv_sub hl [2, 3, 4, 1, 0] rfl)
theorem hX3_saidTimes : yX3_saidTimes.cls = RX3 ∧ yX3_saidTimes.cls ≠ "java/lang/invoke/MethodHandle" ∧ yX3_saidTimes.cls ≠ "java/lang/invoke/VarHandle" ∧ (parseMethodDescriptor yX3_saidTimes.desc).map (fun d => d.parameters.length) = some 2 := by decide +kernel
set_option maxHeartbeats 4000000 in
set_option maxRecDepth 100000 in
theorem kX3_saidTimes (l : Launch) (D : va_G) (g : zG) (ad : Nat → Nat) (σ : zSt) (x1 : Int32) (x2 : Int32) (o : Int32) (h : fX3_saidTimes σ x1 x2 = some o) : zMi l D g 0 ad yX3_saidTimes (Cond.code yX3_saidTimes cX3_saidTimes 5 (some .int) :: zws) (zRm 2) [.ref (ad 6), .int x1, .int x2] σ o σ := by
  refine z_enter_i (by decide) (Nat.le_of_ble_eq_true rfl) ?_
  intro p e s m below meth c A ls Q C hw hl hret
  obtain ⟨hx, hb, hml, hown, hts, hK, hA⟩ := id C
  have hown : s.vm.findClass RX3 = some m.cls := hown
  have C : zCx p c cX3_saidTimes s _ RX3 m 5 A s.heap D g := C
  have hl : lv_has ls 5 [(0, .ref (ad 6)), (1, .int x1), (2, .int x2)] := hl
  unfold fX3_saidTimes at h
  refine lv_iconst (v := 0) hx hb dX3_saidTimes_0 (by decide) ?_
  refine lv_istore_n (lv' := [(3, .int (0 : Int32)), (0, .ref (ad 6)), (1, .int x1), (2, .int x2)]) hx hb dX3_saidTimes_1 rfl hl (by decide) rfl (fun ls hl => ?_)
  refine lv_iconst (v := 0) hx hb dX3_saidTimes_2 (by decide) ?_
  refine lv_istore (lv' := [(4, .int (0 : Int32)), (3, .int (0 : Int32)), (0, .ref (ad 6)), (1, .int x1), (2, .int x2)]) hx hb dX3_saidTimes_3 hl (by decide) rfl (fun ls hl => ?_)
  obtain ⟨b1, e2, h⟩ := zbind h
  refine wX3_saidTimes_5 C σ x1 x2 zFU ((0 : Int32), (0 : Int32)) b1 e2 (fun H locs ls hw hl => ?_) _ _ _ hw (lv_sub hl [2, 3, 4, 1, 0] rfl)
  have hl : lv_has ls 5 [(0, .ref (ad 6)), (1, .int x1), (2, .int x2), (3, .int b1.1), (4, .int b1.2)] := hl
  refine lv_iload_n hx hb dX3_saidTimes_48 rfl (lv_at hl 3 rfl) ?_
  obtain rfl := Option.some.inj h
  exact hret _ _ _ _ hw rfl dX3_saidTimes_49
set_option maxHeartbeats 4000000 in
set_option maxRecDepth 100000 in
theorem wX3_overTimes_15 {p : Program} {l : Launch} {e : Env} {s : State} {m : MethodId} {args : Array Value} {below : List Frame} {meth : Method} {c : Code} {A : Nat → Prop} {H0 : Heap} {Q : State → Prop} {D : va_G} {g : zG} {ad : Nat → Nat} (C : zCx p c cX3_overTimes s args RX3 m 5 A H0 D g) (σ : zSt) (x1 : Int32) (x2 : Int32) (n : Nat) (a : (Int32 × Int32)) (b : (Int32 × Int32)) (h : zLp (fun a => bX3_overTimes_15 σ x1 x2 a.1 a.2) n a = some b) (hk : ∀ (H : Heap) (locs : List Loc) (ls : Array Slot), zH D g 0 ad A H0 σ H locs → lv_has ls 5 [(0, .ref (ad 6)), (1, .int x1), (2, .int x2), (3, .int b.1), (4, .int b.2)] → W p l e (zRm 1) s m args below meth c H locs 0 0 Q (F0 m 54 ls [])) : ∀ (H : Heap) (locs : List Loc) (ls : Array Slot), zH D g 0 ad A H0 σ H locs → lv_has ls 5 [(0, .ref (ad 6)), (1, .int x1), (2, .int x2), (3, .int a.1), (4, .int a.2)] → W p l e (zRm 1) s m args below meth c H locs 0 0 Q (F0 m 15 ls []) := by
  obtain ⟨hx, hb, hml, hown, hts, hK, hA⟩ := id C
  refine zLp_walk (P := fun (a : (Int32 × Int32)) => ∀ (H : Heap) (locs : List Loc) (ls : Array Slot), zH D g 0 ad A H0 σ H locs → lv_has ls 5 [(0, .ref (ad 6)), (1, .int x1), (2, .int x2), (3, .int a.1), (4, .int a.2)] → W p l e (zRm 1) s m args below meth c H locs 0 0 Q (F0 m 15 ls [])) (E := fun (b' : (Int32 × Int32)) => b' = b) ?_ n a b h rfl
  intro a r h hn he H locs ls hw hl
  obtain ⟨x3, x4⟩ := a
  have h : bX3_overTimes_15 σ x1 x2 x3 x4 = some r := h
  have hl : lv_has ls 5 [(0, .ref (ad 6)), (1, .int x1), (2, .int x2), (3, .int x3), (4, .int x4)] := hl
  have hw : zH D g 0 ad A H0 σ H locs := hw
  unfold bX3_overTimes_15 at h
  refine lv_iload hx hb dX3_overTimes_15 (lv_at hl 4 rfl) ?_
  refine lv_aload_n hx hb dX3_overTimes_17 rfl (lv_at hl 0 rfl) ?_
  refine z_getc hx hb hts zin_X3 hown hK hw zF0_6_0 (hts _ zw_201) dX3_overTimes_18 ?_
  refine z_geti hx hb hts zin_X8 hown hK hw zF0_3_0 (hts _ zw_138) dX3_overTimes_21 ?_
  refine lv_icmp_ge (tgt := 54) hx hb dX3_overTimes_24 (by decide) (fun t1 => ?_) (fun t1 => ?_)
  · rw [if_pos t1] at h
    obtain rfl := Option.some.inj h
    obtain rfl := he _ rfl
    exact hk _ _ _ hw (lv_sub hl [0, 1, 2, 3, 4] rfl)
  · rw [if_neg t1] at h
    refine lv_iload_n hx hb dX3_overTimes_27 rfl (lv_at hl 3 rfl) ?_
    refine lv_aload_n hx hb dX3_overTimes_28 rfl (lv_at hl 0 rfl) ?_
    refine lv_iload_n hx hb dX3_overTimes_29 rfl (lv_at hl 1 rfl) ?_
    refine lv_iload_n hx hb dX3_overTimes_30 rfl (lv_at hl 2 rfl) ?_
    refine lv_iload hx hb dX3_overTimes_31 (lv_at hl 4 rfl) ?_
    refine lv_aload_n hx hb dX3_overTimes_33 rfl (lv_at hl 0 rfl) ?_
    refine z_getc hx hb hts zin_X3 hown hK hw zF0_6_0 (hts _ zw_201) dX3_overTimes_34 ?_
    refine lv_iconst (v := 1) hx hb dX3_overTimes_37 (by decide) ?_
    refine lv_iload hx hb dX3_overTimes_38 (lv_at hl 4 rfl) ?_
    obtain ⟨r2, e3, h⟩ := zbind h
    refine z_cVi (As := [.int (1 : Int32), .int x4]) (rest := [.int x4, .int x2, .int x1, .ref (ad 6), .int x3]) ⟨hx, hb, hml, hown, hts⟩ hK hw hA (kX8_meaning l D g ad σ (1 : Int32) x4 r2 e3) (zcwV 2 hts zgoodIn zw_584 zw_432 zw_433 zw_56 zw_434 rfl rfl hX8_meaning ⟨Nat.le_of_ble_eq_true rfl, Nat.le_of_ble_eq_true rfl⟩) zO0_3 rfl hl.1 rfl (Nat.le_of_ble_eq_true rfl) dX3_overTimes_40 ⟨Nat.zero_le _, Nat.zero_le _⟩ (fun H locs hw => ?_)
    obtain ⟨r4, e5, h⟩ := zbind h
    refine z_cVi (As := [.int x1, .int x2, .int x4, .int r2]) (rest := [.int x3]) ⟨hx, hb, hml, hown, hts⟩ hK hw hA (kX3_passing l D g ad σ x1 x2 x4 r2 r4 e5) (zcwV 4 hts zgoodIn zw_566 zw_568 zw_11 zw_59 zw_569 rfl rfl hX3_passing ⟨Nat.le_of_ble_eq_true rfl, Nat.le_of_ble_eq_true rfl⟩) zO0_6 rfl hl.1 rfl (Nat.le_of_ble_eq_true rfl) dX3_overTimes_43 ⟨Nat.zero_le _, Nat.zero_le _⟩ (fun H locs hw => ?_)
    refine lv_iadd hx hb dX3_overTimes_46 ?_
    refine lv_istore_n (lv' := [(3, .int (x3 + r4)), (0, .ref (ad 6)), (1, .int x1), (2, .int x2), (4, .int x4)]) hx hb dX3_overTimes_47 rfl hl (by decide) rfl (fun ls hl => ?_)
    refine lv_iinc (v := x4 + 1) (lv' := [(4, .int (x4 + 1)), (3, .int (x3 + r4)), (0, .ref (ad 6)), (1, .int x1), (2, .int x2)]) hx hb dX3_overTimes_48 hl (k := 4) rfl rfl (by decide) rfl (fun ls hl => ?_)
    refine lv_goto (tgt := 15) hx hb dX3_overTimes_51 (by decide) ?_
    obtain rfl := Option.some.inj h
    exact hn _ rfl _ _ _ hw (lv_sub hl [2, 3, 4, 1, 0] rfl)
theorem hX3_overTimes : yX3_overTimes.cls = RX3 ∧ yX3_overTimes.cls ≠ "java/lang/invoke/MethodHandle" ∧ yX3_overTimes.cls ≠ "java/lang/invoke/VarHandle" ∧ (parseMethodDescriptor yX3_overTimes.desc).map (fun d => d.parameters.length) = some 1 := by decide +kernel
set_option maxHeartbeats 4000000 in
set_option maxRecDepth 100000 in
theorem kX3_overTimes (l : Launch) (D : va_G) (g : zG) (ad : Nat → Nat) (σ : zSt) (x1 : Int32) (o : Int32) (h : fX3_overTimes σ x1 = some o) : zMi l D g 0 ad yX3_overTimes (Cond.code yX3_overTimes cX3_overTimes 5 (some .int) :: zws) (zRm 1) [.ref (ad 6), .int x1] σ o σ := by
  refine z_enter_i (by decide) (Nat.le_of_ble_eq_true rfl) ?_
  intro p e s m below meth c A ls Q C hw hl hret
  obtain ⟨hx, hb, hml, hown, hts, hK, hA⟩ := id C
  have hown : s.vm.findClass RX3 = some m.cls := hown
  have C : zCx p c cX3_overTimes s _ RX3 m 5 A s.heap D g := C
  have hl : lv_has ls 5 [(0, .ref (ad 6)), (1, .int x1)] := hl
  unfold fX3_overTimes at h
  refine lv_aload_n hx hb dX3_overTimes_0 rfl (lv_at hl 0 rfl) ?_
  refine z_getc hx hb hts zin_X3 hown hK hw zF0_6_0 (hts _ zw_201) dX3_overTimes_1 ?_
  refine lv_iconst (v := 0) hx hb dX3_overTimes_4 (by decide) ?_
  refine lv_iload_n hx hb dX3_overTimes_5 rfl (lv_at hl 1 rfl) ?_
  obtain ⟨r1, e2, h⟩ := zbind h
  refine z_cVi (As := [.int (0 : Int32), .int x1]) (rest := []) ⟨hx, hb, hml, hown, hts⟩ hK hw hA (kX8_meaning l D g ad σ (0 : Int32) x1 r1 e2) (zcwV 2 hts zgoodIn zw_584 zw_432 zw_433 zw_56 zw_434 rfl rfl hX8_meaning ⟨Nat.le_of_ble_eq_true rfl, Nat.le_of_ble_eq_true rfl⟩) zO0_3 rfl hl.1 rfl (Nat.le_of_ble_eq_true rfl) dX3_overTimes_6 ⟨Nat.zero_le _, Nat.zero_le _⟩ (fun H locs hw => ?_)
  refine lv_istore_n (lv' := [(2, .int r1), (0, .ref (ad 6)), (1, .int x1)]) hx hb dX3_overTimes_9 rfl hl (by decide) rfl (fun ls hl => ?_)
  refine lv_iconst (v := 0) hx hb dX3_overTimes_10 (by decide) ?_
  refine lv_istore_n (lv' := [(3, .int (0 : Int32)), (2, .int r1), (0, .ref (ad 6)), (1, .int x1)]) hx hb dX3_overTimes_11 rfl hl (by decide) rfl (fun ls hl => ?_)
  refine lv_iconst (v := 0) hx hb dX3_overTimes_12 (by decide) ?_
  refine lv_istore (lv' := [(4, .int (0 : Int32)), (3, .int (0 : Int32)), (2, .int r1), (0, .ref (ad 6)), (1, .int x1)]) hx hb dX3_overTimes_13 hl (by decide) rfl (fun ls hl => ?_)
  obtain ⟨b3, e4, h⟩ := zbind h
  refine wX3_overTimes_15 C σ x1 r1 zFU ((0 : Int32), (0 : Int32)) b3 e4 (fun H locs ls hw hl => ?_) _ _ _ hw (lv_sub hl [3, 4, 2, 1, 0] rfl)
  have hl : lv_has ls 5 [(0, .ref (ad 6)), (1, .int x1), (2, .int r1), (3, .int b3.1), (4, .int b3.2)] := hl
  refine lv_iload_n hx hb dX3_overTimes_54 rfl (lv_at hl 3 rfl) ?_
  obtain rfl := Option.some.inj h
  exact hret _ _ _ _ hw rfl dX3_overTimes_55
set_option maxHeartbeats 4000000 in
set_option maxRecDepth 100000 in
theorem wX3_bestOver_8 {p : Program} {l : Launch} {e : Env} {s : State} {m : MethodId} {args : Array Value} {below : List Frame} {meth : Method} {c : Code} {A : Nat → Prop} {H0 : Heap} {Q : State → Prop} {D : va_G} {g : zG} {ad : Nat → Nat} (C : zCx p c cX3_bestOver s args RX3 m 6 A H0 D g) (σ : zSt) (x1 : Int32) (n : Nat) (a : (Int32 × Int32 × Int32)) (b : (Int32 × Int32 × Int32)) (h : zLp (fun a => bX3_bestOver_8 σ x1 a.1 a.2.1 a.2.2) n a = some b) (hk : ∀ (H : Heap) (locs : List Loc) (ls : Array Slot), zH D g 0 ad A H0 σ H locs → lv_has ls 6 [(0, .ref (ad 6)), (1, .int x1), (2, .int b.1), (3, .int b.2.1), (4, .int b.2.2)] → W p l e (zRm 2) s m args below meth c H locs 0 0 Q (F0 m 56 ls [])) : ∀ (H : Heap) (locs : List Loc) (ls : Array Slot), zH D g 0 ad A H0 σ H locs → lv_has ls 6 [(0, .ref (ad 6)), (1, .int x1), (2, .int a.1), (3, .int a.2.1), (4, .int a.2.2)] → W p l e (zRm 2) s m args below meth c H locs 0 0 Q (F0 m 8 ls []) := by
  obtain ⟨hx, hb, hml, hown, hts, hK, hA⟩ := id C
  refine zLp_walk (P := fun (a : (Int32 × Int32 × Int32)) => ∀ (H : Heap) (locs : List Loc) (ls : Array Slot), zH D g 0 ad A H0 σ H locs → lv_has ls 6 [(0, .ref (ad 6)), (1, .int x1), (2, .int a.1), (3, .int a.2.1), (4, .int a.2.2)] → W p l e (zRm 2) s m args below meth c H locs 0 0 Q (F0 m 8 ls [])) (E := fun (b' : (Int32 × Int32 × Int32)) => b' = b) ?_ n a b h rfl
  intro a r h hn he H locs ls hw hl
  obtain ⟨x2, x3, x4⟩ := a
  have h : bX3_bestOver_8 σ x1 x2 x3 x4 = some r := h
  have hl : lv_has ls 6 [(0, .ref (ad 6)), (1, .int x1), (2, .int x2), (3, .int x3), (4, .int x4)] := hl
  have hw : zH D g 0 ad A H0 σ H locs := hw
  unfold bX3_bestOver_8 at h
  refine lv_iload hx hb dX3_bestOver_8 (lv_at hl 4 rfl) ?_
  refine lv_aload_n hx hb dX3_bestOver_10 rfl (lv_at hl 0 rfl) ?_
  refine z_getc hx hb hts zin_X3 hown hK hw zF0_6_0 (hts _ zw_201) dX3_bestOver_11 ?_
  refine z_geti hx hb hts zin_X8 hown hK hw zF0_3_0 (hts _ zw_138) dX3_bestOver_14 ?_
  refine lv_icmp_ge (tgt := 56) hx hb dX3_bestOver_17 (by decide) (fun t1 => ?_) (fun t1 => ?_)
  · rw [if_pos t1] at h
    obtain rfl := Option.some.inj h
    obtain rfl := he _ rfl
    exact hk _ _ _ hw (lv_sub hl [0, 1, 2, 3, 4] rfl)
  · rw [if_neg t1] at h
    refine lv_iload_n hx hb dX3_bestOver_20 rfl (lv_at hl 1 rfl) ?_
    refine lv_iload hx hb dX3_bestOver_21 (lv_at hl 4 rfl) ?_
    refine lv_ishr hx hb dX3_bestOver_23 ?_
    refine lv_iconst (v := 1) hx hb dX3_bestOver_24 (by decide) ?_
    refine lv_iand hx hb dX3_bestOver_25 ?_
    refine lv_iconst (v := 1) hx hb dX3_bestOver_26 (by decide) ?_
    refine lv_icmp_ne (tgt := 50) hx hb dX3_bestOver_27 (by decide) (fun t2 => ?_) (fun t2 => ?_)
    · rw [if_neg t2] at h
      refine lv_iinc (v := x4 + 1) (lv' := [(4, .int (x4 + 1)), (0, .ref (ad 6)), (1, .int x1), (2, .int x2), (3, .int x3)]) hx hb dX3_bestOver_50 hl (k := 4) rfl rfl (by decide) rfl (fun ls hl => ?_)
      refine lv_goto (tgt := 8) hx hb dX3_bestOver_53 (by decide) ?_
      obtain rfl := Option.some.inj h
      exact hn _ rfl _ _ _ hw (lv_sub hl [1, 2, 3, 4, 0] rfl)
    · rw [if_pos t2] at h
      refine lv_aload_n hx hb dX3_bestOver_30 rfl (lv_at hl 0 rfl) ?_
      refine lv_iload hx hb dX3_bestOver_31 (lv_at hl 4 rfl) ?_
      obtain ⟨r3, e4, h⟩ := zbind h
      refine z_cVi (As := [.int x4]) (rest := []) ⟨hx, hb, hml, hown, hts⟩ hK hw hA (kX3_overTimes l D g ad σ x4 r3 e4) (zcwV 1 hts zgoodIn zw_609 zw_598 zw_599 zw_59 zw_600 rfl rfl hX3_overTimes ⟨Nat.le_of_ble_eq_true rfl, Nat.le_of_ble_eq_true rfl⟩) zO0_6 rfl hl.1 rfl (Nat.le_of_ble_eq_true rfl) dX3_bestOver_33 ⟨Nat.zero_le _, Nat.zero_le _⟩ (fun H locs hw => ?_)
      refine lv_istore (lv' := [(5, .int r3), (0, .ref (ad 6)), (1, .int x1), (2, .int x2), (3, .int x3), (4, .int x4)]) hx hb dX3_bestOver_36 hl (by decide) rfl (fun ls hl => ?_)
      refine lv_iload hx hb dX3_bestOver_38 (lv_at hl 0 rfl) ?_
      refine lv_iload_n hx hb dX3_bestOver_40 rfl (lv_at hl 4 rfl) ?_
      refine lv_icmp_le (tgt := 50) hx hb dX3_bestOver_41 (by decide) (fun t5 => ?_) (fun t5 => ?_)
      · rw [if_pos t5] at h
        refine lv_iinc (v := x4 + 1) (lv' := [(4, .int (x4 + 1)), (5, .int r3), (0, .ref (ad 6)), (1, .int x1), (2, .int x2), (3, .int x3)]) hx hb dX3_bestOver_50 hl (k := 5) rfl rfl (by decide) rfl (fun ls hl => ?_)
        refine lv_goto (tgt := 8) hx hb dX3_bestOver_53 (by decide) ?_
        obtain rfl := Option.some.inj h
        exact hn _ rfl _ _ _ hw (lv_sub hl [2, 3, 4, 5, 0] rfl)
      · rw [if_neg t5] at h
        refine lv_iload hx hb dX3_bestOver_44 (lv_at hl 5 rfl) ?_
        refine lv_istore_n (lv' := [(2, .int x4), (5, .int r3), (0, .ref (ad 6)), (1, .int x1), (3, .int x3), (4, .int x4)]) hx hb dX3_bestOver_46 rfl hl (by decide) rfl (fun ls hl => ?_)
        refine lv_iload hx hb dX3_bestOver_47 (lv_at hl 1 rfl) ?_
        refine lv_istore_n (lv' := [(3, .int r3), (2, .int x4), (5, .int r3), (0, .ref (ad 6)), (1, .int x1), (4, .int x4)]) hx hb dX3_bestOver_49 rfl hl (by decide) rfl (fun ls hl => ?_)
        refine lv_iinc (v := x4 + 1) (lv' := [(4, .int (x4 + 1)), (3, .int r3), (2, .int x4), (5, .int r3), (0, .ref (ad 6)), (1, .int x1)]) hx hb dX3_bestOver_50 hl (k := 5) rfl rfl (by decide) rfl (fun ls hl => ?_)
        refine lv_goto (tgt := 8) hx hb dX3_bestOver_53 (by decide) ?_
        obtain rfl := Option.some.inj h
        exact hn _ rfl _ _ _ hw (lv_sub hl [4, 5, 2, 1, 0] rfl)
theorem hX3_bestOver : yX3_bestOver.cls = RX3 ∧ yX3_bestOver.cls ≠ "java/lang/invoke/MethodHandle" ∧ yX3_bestOver.cls ≠ "java/lang/invoke/VarHandle" ∧ (parseMethodDescriptor yX3_bestOver.desc).map (fun d => d.parameters.length) = some 1 := by decide +kernel
set_option maxHeartbeats 4000000 in
set_option maxRecDepth 100000 in
theorem kX3_bestOver (l : Launch) (D : va_G) (g : zG) (ad : Nat → Nat) (σ : zSt) (x1 : Int32) (o : Int32) (h : fX3_bestOver σ x1 = some o) : zMi l D g 0 ad yX3_bestOver (Cond.code yX3_bestOver cX3_bestOver 6 (some .int) :: zws) (zRm 2) [.ref (ad 6), .int x1] σ o σ := by
  refine z_enter_i (by decide) (Nat.le_of_ble_eq_true rfl) ?_
  intro p e s m below meth c A ls Q C hw hl hret
  obtain ⟨hx, hb, hml, hown, hts, hK, hA⟩ := id C
  have hown : s.vm.findClass RX3 = some m.cls := hown
  have C : zCx p c cX3_bestOver s _ RX3 m 6 A s.heap D g := C
  have hl : lv_has ls 6 [(0, .ref (ad 6)), (1, .int x1)] := hl
  unfold fX3_bestOver at h
  refine lv_bipush (v := (-9)) hx hb dX3_bestOver_0 (by decide) ?_
  refine lv_istore_n (lv' := [(2, .int (-9 : Int32)), (0, .ref (ad 6)), (1, .int x1)]) hx hb dX3_bestOver_2 rfl hl (by decide) rfl (fun ls hl => ?_)
  refine lv_iconst (v := (-1)) hx hb dX3_bestOver_3 (by decide) ?_
  refine lv_istore_n (lv' := [(3, .int (-1 : Int32)), (2, .int (-9 : Int32)), (0, .ref (ad 6)), (1, .int x1)]) hx hb dX3_bestOver_4 rfl hl (by decide) rfl (fun ls hl => ?_)
  refine lv_iconst (v := 0) hx hb dX3_bestOver_5 (by decide) ?_
  refine lv_istore (lv' := [(4, .int (0 : Int32)), (3, .int (-1 : Int32)), (2, .int (-9 : Int32)), (0, .ref (ad 6)), (1, .int x1)]) hx hb dX3_bestOver_6 hl (by decide) rfl (fun ls hl => ?_)
  obtain ⟨b1, e2, h⟩ := zbind h
  refine wX3_bestOver_8 C σ x1 zFU ((-9 : Int32), (-1 : Int32), (0 : Int32)) b1 e2 (fun H locs ls hw hl => ?_) _ _ _ hw (lv_sub hl [3, 4, 2, 1, 0] rfl)
  have hl : lv_has ls 6 [(0, .ref (ad 6)), (1, .int x1), (2, .int b1.1), (3, .int b1.2.1), (4, .int b1.2.2)] := hl
  refine lv_iload_n hx hb dX3_bestOver_56 rfl (lv_at hl 2 rfl) ?_
  obtain rfl := Option.some.inj h
  exact hret _ _ _ _ hw rfl dX3_bestOver_57
theorem hX3_truth : yX3_truth.cls = RX3 ∧ yX3_truth.cls ≠ "java/lang/invoke/MethodHandle" ∧ yX3_truth.cls ≠ "java/lang/invoke/VarHandle" ∧ (parseMethodDescriptor yX3_truth.desc).map (fun d => d.parameters.length) = some 2 := by decide +kernel
set_option maxHeartbeats 4000000 in
set_option maxRecDepth 100000 in
theorem kX3_truth (l : Launch) (D : va_G) (g : zG) (ad : Nat → Nat) (σ : zSt) (x1 : Int32) (x2 : Int32) (o : Int32) (h : fX3_truth σ x1 x2 = some o) : zMi l D g 0 ad yX3_truth (Cond.code yX3_truth cX3_truth 4 (some .int) :: zws) (zRm 3) [.ref (ad 6), .int x1, .int x2] σ o σ := by
  refine z_enter_i (by decide) (Nat.le_of_ble_eq_true rfl) ?_
  intro p e s m below meth c A ls Q C hw hl hret
  obtain ⟨hx, hb, hml, hown, hts, hK, hA⟩ := id C
  have hown : s.vm.findClass RX3 = some m.cls := hown
  have C : zCx p c cX3_truth s _ RX3 m 4 A s.heap D g := C
  have hl : lv_has ls 4 [(0, .ref (ad 6)), (1, .int x1), (2, .int x2)] := hl
  unfold fX3_truth at h
  refine lv_aload_n hx hb dX3_truth_0 rfl (lv_at hl 0 rfl) ?_
  refine lv_iload_n hx hb dX3_truth_1 rfl (lv_at hl 1 rfl) ?_
  refine lv_iload_n hx hb dX3_truth_2 rfl (lv_at hl 2 rfl) ?_
  obtain ⟨r1, e2, h⟩ := zbind h
  refine z_cVi (As := [.int x1, .int x2]) (rest := []) ⟨hx, hb, hml, hown, hts⟩ hK hw hA (kX3_heardTimes l D g ad σ x1 x2 r1 e2) (zcwV 2 hts zgoodIn zw_558 zw_559 zw_560 zw_59 zw_561 rfl rfl hX3_heardTimes ⟨Nat.le_of_ble_eq_true rfl, Nat.le_of_ble_eq_true rfl⟩) zO0_6 rfl hl.1 rfl (Nat.le_of_ble_eq_true rfl) dX3_truth_3 ⟨Nat.zero_le _, Nat.zero_le _⟩ (fun H locs hw => ?_)
  refine lv_istore_n (lv' := [(3, .int r1), (0, .ref (ad 6)), (1, .int x1), (2, .int x2)]) hx hb dX3_truth_6 rfl hl (by decide) rfl (fun ls hl => ?_)
  refine lv_iload_n hx hb dX3_truth_7 rfl (lv_at hl 0 rfl) ?_
  refine lv_if_ne (tgt := 15) hx hb dX3_truth_8 (by decide) (fun t3 => ?_) (fun t3 => ?_)
  · rw [if_neg t3] at h
    refine lv_ldc2 hx hb hown (hts _ zw_626) dX3_truth_15 ?_
    refine lv_aload_n hx hb dX3_truth_18 rfl (lv_at hl 1 rfl) ?_
    refine lv_iload_n hx hb dX3_truth_19 rfl (lv_at hl 2 rfl) ?_
    refine lv_iload_n hx hb dX3_truth_20 rfl (lv_at hl 3 rfl) ?_
    obtain ⟨r4, e5, h⟩ := zbind h
    refine z_cVi (As := [.int x1, .int x2]) (rest := [.long (1000 : Int64)]) ⟨hx, hb, hml, hown, hts⟩ hK hw hA (kX3_saidTimes l D g ad σ x1 x2 r4 e5) (zcwV 2 hts zgoodIn zw_627 zw_590 zw_591 zw_59 zw_592 rfl rfl hX3_saidTimes ⟨Nat.le_of_ble_eq_true rfl, Nat.le_of_ble_eq_true rfl⟩) zO0_6 rfl hl.1 rfl (Nat.le_of_ble_eq_true rfl) dX3_truth_21 ⟨Nat.zero_le _, Nat.zero_le _⟩ (fun H locs hw => ?_)
    refine lv_i2l hx hb dX3_truth_24 rfl ?_
    refine lv_lmul hx hb dX3_truth_25 ?_
    refine lv_iload_n hx hb dX3_truth_26 rfl (lv_at hl 0 rfl) ?_
    refine lv_i2l hx hb dX3_truth_27 rfl ?_
    obtain ⟨v6, e7, h⟩ := zbind h
    refine z_ldiv hx hb e7 dX3_truth_28 ?_
    refine lv_l2i hx hb dX3_truth_29 rfl ?_
    obtain rfl := Option.some.inj h
    exact hret _ _ _ _ hw rfl dX3_truth_30
  · rw [if_pos t3] at h
    refine lv_iconst (v := 0) hx hb dX3_truth_11 (by decide) ?_
    refine lv_goto (tgt := 30) hx hb dX3_truth_12 (by decide) ?_
    obtain rfl := Option.some.inj h
    exact hret _ _ _ _ hw rfl dX3_truth_30
theorem hX4_clear : yX4_clear.cls = RX4 ∧ yX4_clear.cls ≠ "java/lang/invoke/MethodHandle" ∧ yX4_clear.cls ≠ "java/lang/invoke/VarHandle" ∧ (parseMethodDescriptor yX4_clear.desc).map (fun d => d.parameters.length) = some 0 := by decide +kernel
set_option maxHeartbeats 4000000 in
set_option maxRecDepth 100000 in
theorem kX4_clear (l : Launch) (D : va_G) (g : zG) (ad : Nat → Nat) (σ : zSt) (o : zSt) (h : fX4_clear σ = o) : zMv l D g 0 ad yX4_clear (Cond.code yX4_clear cX4_clear 1 (none : Option Jvm.ClassFile.FieldType) :: zws) (zRm 0) [.ref (ad 8)] σ o := by
  refine z_enter_v (by decide) (Nat.le_of_ble_eq_true rfl) ?_
  intro p e s m below meth c A ls Q C hw hl hret
  obtain ⟨hx, hb, hml, hown, hts, hK, hA⟩ := id C
  have hown : s.vm.findClass RX4 = some m.cls := hown
  have C : zCx p c cX4_clear s _ RX4 m 1 A s.heap D g := C
  have hl : lv_has ls 1 [(0, .ref (ad 8))] := hl
  unfold fX4_clear at h
  refine lv_aload_n hx hb dX4_clear_0 rfl (lv_at hl 0 rfl) ?_
  refine lv_iconst (v := 0) hx hb dX4_clear_1 (by decide) ?_
  refine z_puti hx hb hts zin_X4 tyX4_ok nmX4 hown hK hw zF0_8_1 (hts _ zw_244) zY0_8_1 dX4_clear_2 (fun H locs hw => ?_)
  subst h
  exact hret _ _ _ _ hw dX4_clear_5
theorem hX4_isFull : yX4_isFull.cls = RX4 ∧ yX4_isFull.cls ≠ "java/lang/invoke/MethodHandle" ∧ yX4_isFull.cls ≠ "java/lang/invoke/VarHandle" ∧ (parseMethodDescriptor yX4_isFull.desc).map (fun d => d.parameters.length) = some 0 := by decide +kernel
set_option maxHeartbeats 4000000 in
set_option maxRecDepth 100000 in
theorem kX4_isFull (l : Launch) (D : va_G) (g : zG) (ad : Nat → Nat) (σ : zSt) (o : Int32) (h : fX4_isFull σ = o) : zMi l D g 0 ad yX4_isFull (Cond.code yX4_isFull cX4_isFull 1 (some .boolean) :: zws) (zRm 0) [.ref (ad 8)] σ o σ := by
  refine z_enter_i (by decide) (Nat.le_of_ble_eq_true rfl) ?_
  intro p e s m below meth c A ls Q C hw hl hret
  obtain ⟨hx, hb, hml, hown, hts, hK, hA⟩ := id C
  have hown : s.vm.findClass RX4 = some m.cls := hown
  have C : zCx p c cX4_isFull s _ RX4 m 1 A s.heap D g := C
  have hl : lv_has ls 1 [(0, .ref (ad 8))] := hl
  unfold fX4_isFull at h
  refine lv_aload_n hx hb dX4_isFull_0 rfl (lv_at hl 0 rfl) ?_
  refine z_geti hx hb hts zin_X4 hown hK hw zF0_8_1 (hts _ zw_244) dX4_isFull_1 ?_
  refine lv_bipush (v := 6) hx hb dX4_isFull_4 (by decide) ?_
  refine lv_icmp_lt (tgt := 13) hx hb dX4_isFull_6 (by decide) (fun t1 => ?_) (fun t1 => ?_)
  · rw [if_pos t1] at h
    refine lv_iconst (v := 0) hx hb dX4_isFull_13 (by decide) ?_
    subst h
    exact hret _ _ _ _ hw zb0 dX4_isFull_14
  · rw [if_neg t1] at h
    refine lv_iconst (v := 1) hx hb dX4_isFull_9 (by decide) ?_
    refine lv_goto (tgt := 14) hx hb dX4_isFull_10 (by decide) ?_
    subst h
    exact hret _ _ _ _ hw zb1 dX4_isFull_14
theorem hX4_nextLine : yX4_nextLine.cls = RX4 ∧ yX4_nextLine.cls ≠ "java/lang/invoke/MethodHandle" ∧ yX4_nextLine.cls ≠ "java/lang/invoke/VarHandle" ∧ (parseMethodDescriptor yX4_nextLine.desc).map (fun d => d.parameters.length) = some 0 := by decide +kernel
set_option maxHeartbeats 4000000 in
set_option maxRecDepth 100000 in
theorem kX4_nextLine (l : Launch) (D : va_G) (g : zG) (ad : Nat → Nat) (σ : zSt) (o : Nat) (h : fX4_nextLine σ = some o) : zMr l D g 0 ad yX4_nextLine (Cond.code yX4_nextLine cX4_nextLine 1 (some (.array .int)) :: zws) (zRm 0) [.ref (ad 8)] σ o σ := by
  refine z_enter_r (by decide) (Nat.le_of_ble_eq_true rfl) ⟨_, rfl⟩ ?_
  intro p e s m below meth c A ls Q C hw hl hret
  obtain ⟨hx, hb, hml, hown, hts, hK, hA⟩ := id C
  have hown : s.vm.findClass RX4 = some m.cls := hown
  have C : zCx p c cX4_nextLine s _ RX4 m 1 A s.heap D g := C
  have hl : lv_has ls 1 [(0, .ref (ad 8))] := hl
  unfold fX4_nextLine at h
  refine lv_aload_n hx hb dX4_nextLine_0 rfl (lv_at hl 0 rfl) ?_
  refine z_getc hx hb hts zin_X4 hown hK hw zF0_8_0 (hts _ zw_242) dX4_nextLine_1 ?_
  refine lv_aload_n hx hb dX4_nextLine_4 rfl (lv_at hl 0 rfl) ?_
  refine z_geti hx hb hts zin_X4 hown hK hw zF0_8_1 (hts _ zw_244) dX4_nextLine_5 ?_
  obtain ⟨q1, e2, h⟩ := zbind h
  refine z_aald hx hb hK hw e2 dX4_nextLine_8 ?_
  obtain rfl := Option.some.inj h
  exact hret _ _ _ _ hw dX4_nextLine_9
theorem hX4_keepLine : yX4_keepLine.cls = RX4 ∧ yX4_keepLine.cls ≠ "java/lang/invoke/MethodHandle" ∧ yX4_keepLine.cls ≠ "java/lang/invoke/VarHandle" ∧ (parseMethodDescriptor yX4_keepLine.desc).map (fun d => d.parameters.length) = some 0 := by decide +kernel
set_option maxHeartbeats 4000000 in
set_option maxRecDepth 100000 in
theorem kX4_keepLine (l : Launch) (D : va_G) (g : zG) (ad : Nat → Nat) (σ : zSt) (o : Int32 × zSt) (h : fX4_keepLine σ = o) : zMi l D g 0 ad yX4_keepLine (Cond.code yX4_keepLine cX4_keepLine 1 (some .int) :: zws) (zRm 0) [.ref (ad 8)] σ o.1 o.2 := by
  refine z_enter_i (by decide) (Nat.le_of_ble_eq_true rfl) ?_
  intro p e s m below meth c A ls Q C hw hl hret
  obtain ⟨hx, hb, hml, hown, hts, hK, hA⟩ := id C
  have hown : s.vm.findClass RX4 = some m.cls := hown
  have C : zCx p c cX4_keepLine s _ RX4 m 1 A s.heap D g := C
  have hl : lv_has ls 1 [(0, .ref (ad 8))] := hl
  unfold fX4_keepLine at h
  refine lv_aload_n hx hb dX4_keepLine_0 rfl (lv_at hl 0 rfl) ?_
  refine lv_dup hx hb dX4_keepLine_1 rfl ?_
  refine z_geti hx hb hts zin_X4 hown hK hw zF0_8_1 (hts _ zw_244) dX4_keepLine_2 ?_
  refine lv_iconst (v := 1) hx hb dX4_keepLine_5 (by decide) ?_
  refine lv_iadd hx hb dX4_keepLine_6 ?_
  refine z_puti hx hb hts zin_X4 tyX4_ok nmX4 hown hK hw zF0_8_1 (hts _ zw_244) zY0_8_1 dX4_keepLine_7 (fun H locs hw => ?_)
  refine lv_aload_n hx hb dX4_keepLine_10 rfl (lv_at hl 0 rfl) ?_
  refine z_geti hx hb hts zin_X4 hown hK hw zF0_8_1 (hts _ zw_244) dX4_keepLine_11 ?_
  refine lv_iconst (v := 1) hx hb dX4_keepLine_14 (by decide) ?_
  refine lv_isub hx hb dX4_keepLine_15 ?_
  subst h
  exact hret _ _ _ _ hw rfl dX4_keepLine_16
set_option maxHeartbeats 4000000 in
set_option maxRecDepth 100000 in
theorem wX4_weighOne_3 {p : Program} {l : Launch} {e : Env} {s : State} {m : MethodId} {args : Array Value} {below : List Frame} {meth : Method} {c : Code} {A : Nat → Prop} {H0 : Heap} {Q : State → Prop} {D : va_G} {g : zG} {ad : Nat → Nat} (C : zCx p c cX4_weighOne s args RX4 m 3 A H0 D g) (x1 : Int32) (n : Nat) (a : (Int32 × zSt)) (b : (Int32 × zSt)) (h : zLp (fun a => bX4_weighOne_3 x1 a.1 a.2) n a = some b) (hk : ∀ (H : Heap) (locs : List Loc) (ls : Array Slot), zH D g 0 ad A H0 b.2 H locs → lv_has ls 3 [(0, .ref (ad 8)), (1, .int x1), (2, .int b.1)] → W p l e (zRm 0) s m args below meth c H locs 0 0 Q (F0 m 44 ls [])) : ∀ (H : Heap) (locs : List Loc) (ls : Array Slot), zH D g 0 ad A H0 a.2 H locs → lv_has ls 3 [(0, .ref (ad 8)), (1, .int x1), (2, .int a.1)] → W p l e (zRm 0) s m args below meth c H locs 0 0 Q (F0 m 3 ls []) := by
  obtain ⟨hx, hb, hml, hown, hts, hK, hA⟩ := id C
  refine zLp_walk (P := fun (a : (Int32 × zSt)) => ∀ (H : Heap) (locs : List Loc) (ls : Array Slot), zH D g 0 ad A H0 a.2 H locs → lv_has ls 3 [(0, .ref (ad 8)), (1, .int x1), (2, .int a.1)] → W p l e (zRm 0) s m args below meth c H locs 0 0 Q (F0 m 3 ls [])) (E := fun (b' : (Int32 × zSt)) => b' = b) ?_ n a b h rfl
  intro a r h hn he H locs ls hw hl
  obtain ⟨x2, σ⟩ := a
  have h : bX4_weighOne_3 x1 x2 σ = some r := h
  have hl : lv_has ls 3 [(0, .ref (ad 8)), (1, .int x1), (2, .int x2)] := hl
  have hw : zH D g 0 ad A H0 σ H locs := hw
  unfold bX4_weighOne_3 at h
  refine lv_iload_n hx hb dX4_weighOne_3 rfl (lv_at hl 2 rfl) ?_
  refine lv_if_le (tgt := 44) hx hb dX4_weighOne_4 (by decide) (fun t1 => ?_) (fun t1 => ?_)
  · rw [if_pos t1] at h
    obtain rfl := Option.some.inj h
    obtain rfl := he _ rfl
    exact hk _ _ _ hw (lv_sub hl [0, 1, 2] rfl)
  · rw [if_neg t1] at h
    refine lv_aload_n hx hb dX4_weighOne_7 rfl (lv_at hl 0 rfl) ?_
    refine z_getc hx hb hts zin_X4 hown hK hw zF0_8_3 (hts _ zw_248) dX4_weighOne_8 ?_
    refine lv_iload_n hx hb dX4_weighOne_11 rfl (lv_at hl 2 rfl) ?_
    refine lv_aload_n hx hb dX4_weighOne_12 rfl (lv_at hl 0 rfl) ?_
    refine z_getc hx hb hts zin_X4 hown hK hw zF0_8_3 (hts _ zw_248) dX4_weighOne_13 ?_
    refine lv_iload_n hx hb dX4_weighOne_16 rfl (lv_at hl 2 rfl) ?_
    obtain ⟨v2, e3, h⟩ := zbind h
    refine z_lald hx hb hK hw e3 dX4_weighOne_17 ?_
    refine lv_sipush (v := 1000) hx hb dX4_weighOne_18 (by decide) ?_
    refine lv_iload_n hx hb dX4_weighOne_21 rfl (lv_at hl 1 rfl) ?_
    refine lv_isub hx hb dX4_weighOne_22 ?_
    refine lv_i2l hx hb dX4_weighOne_23 rfl ?_
    refine lv_lmul hx hb dX4_weighOne_24 ?_
    refine lv_aload_n hx hb dX4_weighOne_25 rfl (lv_at hl 0 rfl) ?_
    refine z_getc hx hb hts zin_X4 hown hK hw zF0_8_3 (hts _ zw_248) dX4_weighOne_26 ?_
    refine lv_iload_n hx hb dX4_weighOne_29 rfl (lv_at hl 2 rfl) ?_
    refine lv_iconst (v := 1) hx hb dX4_weighOne_30 (by decide) ?_
    refine lv_isub hx hb dX4_weighOne_31 ?_
    obtain ⟨v4, e5, h⟩ := zbind h
    refine z_lald hx hb hK hw e5 dX4_weighOne_32 ?_
    refine lv_iload_n hx hb dX4_weighOne_33 rfl (lv_at hl 1 rfl) ?_
    refine lv_i2l hx hb dX4_weighOne_34 rfl ?_
    refine lv_lmul hx hb dX4_weighOne_35 ?_
    refine lv_ladd hx hb dX4_weighOne_36 ?_
    obtain ⟨s6, e7, h⟩ := zbind h
    refine z_last hx hb hK hw e7 dX4_weighOne_37 (fun H locs hw => ?_)
    refine lv_iinc (v := x2 + (-1)) (lv' := [(2, .int (x2 + (-1))), (0, .ref (ad 8)), (1, .int x1)]) hx hb dX4_weighOne_38 hl (k := 2) rfl rfl (by decide) rfl (fun ls hl => ?_)
    refine lv_goto (tgt := 3) hx hb dX4_weighOne_41 (by decide) ?_
    obtain rfl := Option.some.inj h
    exact hn _ rfl _ _ _ hw (lv_sub hl [1, 2, 0] rfl)
theorem hX4_weighOne : yX4_weighOne.cls = RX4 ∧ yX4_weighOne.cls ≠ "java/lang/invoke/MethodHandle" ∧ yX4_weighOne.cls ≠ "java/lang/invoke/VarHandle" ∧ (parseMethodDescriptor yX4_weighOne.desc).map (fun d => d.parameters.length) = some 1 := by decide +kernel
set_option maxHeartbeats 4000000 in
set_option maxRecDepth 100000 in
theorem kX4_weighOne (l : Launch) (D : va_G) (g : zG) (ad : Nat → Nat) (σ : zSt) (x1 : Int32) (o : zSt) (h : fX4_weighOne σ x1 = some o) : zMv l D g 0 ad yX4_weighOne (Cond.code yX4_weighOne cX4_weighOne 3 (none : Option Jvm.ClassFile.FieldType) :: zws) (zRm 0) [.ref (ad 8), .int x1] σ o := by
  refine z_enter_v (by decide) (Nat.le_of_ble_eq_true rfl) ?_
  intro p e s m below meth c A ls Q C hw hl hret
  obtain ⟨hx, hb, hml, hown, hts, hK, hA⟩ := id C
  have hown : s.vm.findClass RX4 = some m.cls := hown
  have C : zCx p c cX4_weighOne s _ RX4 m 3 A s.heap D g := C
  have hl : lv_has ls 3 [(0, .ref (ad 8)), (1, .int x1)] := hl
  unfold fX4_weighOne at h
  refine lv_bipush (v := 6) hx hb dX4_weighOne_0 (by decide) ?_
  refine lv_istore_n (lv' := [(2, .int (6 : Int32)), (0, .ref (ad 8)), (1, .int x1)]) hx hb dX4_weighOne_2 rfl hl (by decide) rfl (fun ls hl => ?_)
  obtain ⟨b1, e2, h⟩ := zbind h
  refine wX4_weighOne_3 C x1 zFU ((6 : Int32), σ) b1 e2 (fun H locs ls hw hl => ?_) _ _ _ hw (lv_sub hl [1, 2, 0] rfl)
  have hl : lv_has ls 3 [(0, .ref (ad 8)), (1, .int x1), (2, .int b1.1)] := hl
  refine lv_aload_n hx hb dX4_weighOne_44 rfl (lv_at hl 0 rfl) ?_
  refine z_getc hx hb hts zin_X4 hown hK hw zF0_8_3 (hts _ zw_248) dX4_weighOne_45 ?_
  refine lv_iconst (v := 0) hx hb dX4_weighOne_48 (by decide) ?_
  refine lv_dup2_11 hx hb dX4_weighOne_49 rfl rfl ?_
  obtain ⟨v3, e4, h⟩ := zbind h
  refine z_lald hx hb hK hw e4 dX4_weighOne_50 ?_
  refine lv_sipush (v := 1000) hx hb dX4_weighOne_51 (by decide) ?_
  refine lv_iload_n hx hb dX4_weighOne_54 rfl (lv_at hl 1 rfl) ?_
  refine lv_isub hx hb dX4_weighOne_55 ?_
  refine lv_i2l hx hb dX4_weighOne_56 rfl ?_
  refine lv_lmul hx hb dX4_weighOne_57 ?_
  obtain ⟨s5, e6, h⟩ := zbind h
  refine z_last hx hb hK hw e6 dX4_weighOne_58 (fun H locs hw => ?_)
  refine lv_aload_n hx hb dX4_weighOne_59 rfl (lv_at hl 0 rfl) ?_
  refine lv_dup hx hb dX4_weighOne_60 rfl ?_
  refine z_getl hx hb hts zin_X4 hown hK hw zF0_8_2 (hts _ zw_246) dX4_weighOne_61 ?_
  refine lv_ldc2 hx hb hown (hts _ zw_653) dX4_weighOne_64 ?_
  refine lv_lmul hx hb dX4_weighOne_67 ?_
  refine z_putl hx hb hts zin_X4 tyX4_ok nmX4 hown hK hw zF0_8_2 (hts _ zw_246) zY0_8_2 dX4_weighOne_68 (fun H locs hw => ?_)
  obtain rfl := Option.some.inj h
  exact hret _ _ _ _ hw dX4_weighOne_71
set_option maxHeartbeats 4000000 in
set_option maxRecDepth 100000 in
theorem wX4_weighYes_22 {p : Program} {l : Launch} {e : Env} {s : State} {m : MethodId} {args : Array Value} {below : List Frame} {meth : Method} {c : Code} {A : Nat → Prop} {H0 : Heap} {Q : State → Prop} {D : va_G} {g : zG} {ad : Nat → Nat} (C : zCx p c cX4_weighYes s args RX4 m 2 A H0 D g)  (n : Nat) (a : (Int32 × zSt)) (b : (Int32 × zSt)) (h : zLp (fun a => bX4_weighYes_22 a.1 a.2) n a = some b) (hk : ∀ (H : Heap) (locs : List Loc) (ls : Array Slot), zH D g 0 ad A H0 b.2 H locs → lv_has ls 2 [(0, .ref (ad 8)), (1, .int b.1)] → W p l e (zRm 1) s m args below meth c H locs 0 0 Q (F0 m 59 ls [])) : ∀ (H : Heap) (locs : List Loc) (ls : Array Slot), zH D g 0 ad A H0 a.2 H locs → lv_has ls 2 [(0, .ref (ad 8)), (1, .int a.1)] → W p l e (zRm 1) s m args below meth c H locs 0 0 Q (F0 m 22 ls []) := by
  obtain ⟨hx, hb, hml, hown, hts, hK, hA⟩ := id C
  refine zLp_walk (P := fun (a : (Int32 × zSt)) => ∀ (H : Heap) (locs : List Loc) (ls : Array Slot), zH D g 0 ad A H0 a.2 H locs → lv_has ls 2 [(0, .ref (ad 8)), (1, .int a.1)] → W p l e (zRm 1) s m args below meth c H locs 0 0 Q (F0 m 22 ls [])) (E := fun (b' : (Int32 × zSt)) => b' = b) ?_ n a b h rfl
  intro a r h hn he H locs ls hw hl
  obtain ⟨x1, σ⟩ := a
  have h : bX4_weighYes_22 x1 σ = some r := h
  have hl : lv_has ls 2 [(0, .ref (ad 8)), (1, .int x1)] := hl
  have hw : zH D g 0 ad A H0 σ H locs := hw
  unfold bX4_weighYes_22 at h
  refine lv_iload_n hx hb dX4_weighYes_22 rfl (lv_at hl 1 rfl) ?_
  refine lv_aload_n hx hb dX4_weighYes_23 rfl (lv_at hl 0 rfl) ?_
  refine z_geti hx hb hts zin_X4 hown hK hw zF0_8_1 (hts _ zw_244) dX4_weighYes_24 ?_
  refine lv_icmp_ge (tgt := 59) hx hb dX4_weighYes_27 (by decide) (fun t1 => ?_) (fun t1 => ?_)
  · rw [if_pos t1] at h
    obtain rfl := Option.some.inj h
    obtain rfl := he _ rfl
    exact hk _ _ _ hw (lv_sub hl [0, 1] rfl)
  · rw [if_neg t1] at h
    refine lv_aload_n hx hb dX4_weighYes_30 rfl (lv_at hl 0 rfl) ?_
    refine z_getc hx hb hts zin_X4 hown hK hw zF0_8_0 (hts _ zw_242) dX4_weighYes_31 ?_
    refine lv_iload_n hx hb dX4_weighYes_34 rfl (lv_at hl 1 rfl) ?_
    obtain ⟨q2, e3, h⟩ := zbind h
    refine z_aald hx hb hK hw e3 dX4_weighYes_35 ?_
    refine lv_iconst (v := 2) hx hb dX4_weighYes_36 (by decide) ?_
    obtain ⟨v4, e5, h⟩ := zbind h
    refine z_iald hx hb hK hw e5 dX4_weighYes_37 ?_
    refine lv_if_ne (tgt := 53) hx hb dX4_weighYes_38 (by decide) (fun t6 => ?_) (fun t6 => ?_)
    · rw [if_neg t6] at h
      refine lv_iinc (v := x1 + 1) (lv' := [(1, .int (x1 + 1)), (0, .ref (ad 8))]) hx hb dX4_weighYes_53 hl (k := 1) rfl rfl (by decide) rfl (fun ls hl => ?_)
      refine lv_goto (tgt := 22) hx hb dX4_weighYes_56 (by decide) ?_
      obtain rfl := Option.some.inj h
      exact hn _ rfl _ _ _ hw (lv_sub hl [1, 0] rfl)
    · rw [if_pos t6] at h
      refine lv_aload_n hx hb dX4_weighYes_41 rfl (lv_at hl 0 rfl) ?_
      refine lv_aload_n hx hb dX4_weighYes_42 rfl (lv_at hl 0 rfl) ?_
      refine z_getc hx hb hts zin_X4 hown hK hw zF0_8_0 (hts _ zw_242) dX4_weighYes_43 ?_
      refine lv_iload_n hx hb dX4_weighYes_46 rfl (lv_at hl 1 rfl) ?_
      obtain ⟨q7, e8, h⟩ := zbind h
      refine z_aald hx hb hK hw e8 dX4_weighYes_47 ?_
      refine lv_iconst (v := 5) hx hb dX4_weighYes_48 (by decide) ?_
      obtain ⟨v9, e10, h⟩ := zbind h
      refine z_iald hx hb hK hw e10 dX4_weighYes_49 ?_
      obtain ⟨r11, e12, h⟩ := zbind h
      refine z_cVv (As := [.int v9]) (rest := []) ⟨hx, hb, hml, hown, hts⟩ hK hw hA (kX4_weighOne l D g ad σ v9 r11 e12) (zcwV 1 hts zgoodIn zw_649 zw_651 zw_13 zw_61 zw_652 rfl rfl hX4_weighOne ⟨Nat.le_of_ble_eq_true rfl, Nat.le_of_ble_eq_true rfl⟩) zO0_8 rfl hl.1 rfl (Nat.le_of_ble_eq_true rfl) dX4_weighYes_50 ⟨Nat.zero_le _, Nat.zero_le _⟩ (fun H locs hw => ?_)
      refine lv_iinc (v := x1 + 1) (lv' := [(1, .int (x1 + 1)), (0, .ref (ad 8))]) hx hb dX4_weighYes_53 hl (k := 1) rfl rfl (by decide) rfl (fun ls hl => ?_)
      refine lv_goto (tgt := 22) hx hb dX4_weighYes_56 (by decide) ?_
      obtain rfl := Option.some.inj h
      exact hn _ rfl _ _ _ hw (lv_sub hl [1, 0] rfl)
theorem hX4_weighYes : yX4_weighYes.cls = RX4 ∧ yX4_weighYes.cls ≠ "java/lang/invoke/MethodHandle" ∧ yX4_weighYes.cls ≠ "java/lang/invoke/VarHandle" ∧ (parseMethodDescriptor yX4_weighYes.desc).map (fun d => d.parameters.length) = some 0 := by decide +kernel
set_option maxHeartbeats 4000000 in
set_option maxRecDepth 100000 in
theorem kX4_weighYes (l : Launch) (D : va_G) (g : zG) (ad : Nat → Nat) (σ : zSt) (o : zSt) (h : fX4_weighYes σ = some o) : zMv l D g 0 ad yX4_weighYes (Cond.code yX4_weighYes cX4_weighYes 2 (none : Option Jvm.ClassFile.FieldType) :: zws) (zRm 1) [.ref (ad 8)] σ o := by
  refine z_enter_v (by decide) (Nat.le_of_ble_eq_true rfl) ?_
  intro p e s m below meth c A ls Q C hw hl hret
  obtain ⟨hx, hb, hml, hown, hts, hK, hA⟩ := id C
  have hown : s.vm.findClass RX4 = some m.cls := hown
  have C : zCx p c cX4_weighYes s _ RX4 m 2 A s.heap D g := C
  have hl : lv_has ls 2 [(0, .ref (ad 8))] := hl
  unfold fX4_weighYes at h
  refine lv_aload_n hx hb dX4_weighYes_0 rfl (lv_at hl 0 rfl) ?_
  refine z_getc hx hb hts zin_X4 hown hK hw zF0_8_3 (hts _ zw_248) dX4_weighYes_1 ?_
  refine lv_lconst (v := 0) hx hb dX4_weighYes_4 (by decide) ?_
  obtain ⟨r1, e2, h⟩ := zbind h
  refine z_cSv (As := [.ref (ad 79), .long (0 : Int64)]) (rest := []) ⟨hx, hb, hml, hown, hts⟩ hK hw hA (kJ7_fill_d0a16 l D g ad σ 79 (0 : Int64) r1 e2) (zcwS 2 hts zgoodIn zw_648 zw_483 zw_54 zw_484 rfl rfl hJ7_fill_d0a16 ⟨Nat.le_of_ble_eq_true rfl, Nat.le_of_ble_eq_true rfl⟩) rfl hl.1 rfl (Nat.le_of_ble_eq_true rfl) dX4_weighYes_5 ⟨Nat.zero_le _, Nat.zero_le _⟩ (fun H locs hw => ?_)
  refine lv_aload_n hx hb dX4_weighYes_8 rfl (lv_at hl 0 rfl) ?_
  refine z_getc hx hb hts zin_X4 hown hK hw zF0_8_3 (hts _ zw_248) dX4_weighYes_9 ?_
  refine lv_iconst (v := 0) hx hb dX4_weighYes_12 (by decide) ?_
  refine lv_lconst (v := 1) hx hb dX4_weighYes_13 (by decide) ?_
  obtain ⟨s3, e4, h⟩ := zbind h
  refine z_last hx hb hK hw e4 dX4_weighYes_14 (fun H locs hw => ?_)
  refine lv_aload_n hx hb dX4_weighYes_15 rfl (lv_at hl 0 rfl) ?_
  refine lv_lconst (v := 1) hx hb dX4_weighYes_16 (by decide) ?_
  refine z_putl hx hb hts zin_X4 tyX4_ok nmX4 hown hK hw zF0_8_2 (hts _ zw_246) zY0_8_2 dX4_weighYes_17 (fun H locs hw => ?_)
  refine lv_iconst (v := 0) hx hb dX4_weighYes_20 (by decide) ?_
  refine lv_istore_n (lv' := [(1, .int (0 : Int32)), (0, .ref (ad 8))]) hx hb dX4_weighYes_21 rfl hl (by decide) rfl (fun ls hl => ?_)
  obtain ⟨b5, e6, h⟩ := zbind h
  refine wX4_weighYes_22 C  zFU ((0 : Int32), zwJ s3 8 2 (1 : Int64)) b5 e6 (fun H locs ls hw hl => ?_) _ _ _ hw (lv_sub hl [1, 0] rfl)
  have hl : lv_has ls 2 [(0, .ref (ad 8)), (1, .int b5.1)] := hl
  obtain rfl := Option.some.inj h
  exact hret _ _ _ _ hw dX4_weighYes_59
set_option maxHeartbeats 4000000 in
set_option maxRecDepth 100000 in
theorem wX4_fewerThan_5 {p : Program} {l : Launch} {e : Env} {s : State} {m : MethodId} {args : Array Value} {below : List Frame} {meth : Method} {c : Code} {A : Nat → Prop} {H0 : Heap} {Q : State → Prop} {D : va_G} {g : zG} {ad : Nat → Nat} (C : zCx p c cX4_fewerThan s args RX4 m 5 A H0 D g) (σ : zSt) (x1 : Int32) (n : Nat) (a : (Int64 × Int32)) (b : (Int64 × Int32)) (h : zLp (fun a => bX4_fewerThan_5 σ x1 a.1 a.2) n a = some b) (hk : ∀ (H : Heap) (locs : List Loc) (ls : Array Slot), zH D g 0 ad A H0 σ H locs → lv_has ls 5 [(0, .ref (ad 8)), (1, .int x1), (2, .long b.1), (4, .int b.2)] → W p l e (zRm 0) s m args below meth c H locs 0 0 Q (F0 m 34 ls [])) : ∀ (H : Heap) (locs : List Loc) (ls : Array Slot), zH D g 0 ad A H0 σ H locs → lv_has ls 5 [(0, .ref (ad 8)), (1, .int x1), (2, .long a.1), (4, .int a.2)] → W p l e (zRm 0) s m args below meth c H locs 0 0 Q (F0 m 5 ls []) := by
  obtain ⟨hx, hb, hml, hown, hts, hK, hA⟩ := id C
  refine zLp_walk (P := fun (a : (Int64 × Int32)) => ∀ (H : Heap) (locs : List Loc) (ls : Array Slot), zH D g 0 ad A H0 σ H locs → lv_has ls 5 [(0, .ref (ad 8)), (1, .int x1), (2, .long a.1), (4, .int a.2)] → W p l e (zRm 0) s m args below meth c H locs 0 0 Q (F0 m 5 ls [])) (E := fun (b' : (Int64 × Int32)) => b' = b) ?_ n a b h rfl
  intro a r h hn he H locs ls hw hl
  obtain ⟨x2, x4⟩ := a
  have h : bX4_fewerThan_5 σ x1 x2 x4 = some r := h
  have hl : lv_has ls 5 [(0, .ref (ad 8)), (1, .int x1), (2, .long x2), (4, .int x4)] := hl
  have hw : zH D g 0 ad A H0 σ H locs := hw
  unfold bX4_fewerThan_5 at h
  refine lv_iload hx hb dX4_fewerThan_5 (lv_at hl 3 rfl) ?_
  refine lv_iload_n hx hb dX4_fewerThan_7 rfl (lv_at hl 1 rfl) ?_
  refine lv_icmp_ge (tgt := 34) hx hb dX4_fewerThan_8 (by decide) (fun t1 => ?_) (fun t1 => ?_)
  · rw [if_pos t1] at h
    obtain rfl := Option.some.inj h
    obtain rfl := he _ rfl
    exact hk _ _ _ hw (lv_sub hl [0, 1, 2, 3] rfl)
  · rw [if_neg t1] at h
    refine lv_iload hx hb dX4_fewerThan_11 (lv_at hl 3 rfl) ?_
    refine lv_bipush (v := 6) hx hb dX4_fewerThan_13 (by decide) ?_
    refine lv_icmp_gt (tgt := 34) hx hb dX4_fewerThan_15 (by decide) (fun t2 => ?_) (fun t2 => ?_)
    · rw [if_pos t2] at h
      obtain rfl := Option.some.inj h
      obtain rfl := he _ rfl
      exact hk _ _ _ hw (lv_sub hl [0, 1, 2, 3] rfl)
    · rw [if_neg t2] at h
      refine lv_lload_n hx hb dX4_fewerThan_18 rfl (lv_at hl 2 rfl) ?_
      refine lv_aload_n hx hb dX4_fewerThan_19 rfl (lv_at hl 0 rfl) ?_
      refine z_getc hx hb hts zin_X4 hown hK hw zF0_8_3 (hts _ zw_248) dX4_fewerThan_20 ?_
      refine lv_iload hx hb dX4_fewerThan_23 (lv_at hl 3 rfl) ?_
      obtain ⟨v3, e4, h⟩ := zbind h
      refine z_lald hx hb hK hw e4 dX4_fewerThan_25 ?_
      refine lv_ladd hx hb dX4_fewerThan_26 ?_
      refine lv_lstore_n (lv' := [(2, .long (x2 + v3)), (0, .ref (ad 8)), (1, .int x1), (4, .int x4)]) hx hb dX4_fewerThan_27 rfl hl (by decide) rfl (fun ls hl => ?_)
      refine lv_iinc (v := x4 + 1) (lv' := [(4, .int (x4 + 1)), (2, .long (x2 + v3)), (0, .ref (ad 8)), (1, .int x1)]) hx hb dX4_fewerThan_28 hl (k := 3) rfl rfl (by decide) rfl (fun ls hl => ?_)
      refine lv_goto (tgt := 5) hx hb dX4_fewerThan_31 (by decide) ?_
      obtain rfl := Option.some.inj h
      exact hn _ rfl _ _ _ hw (lv_sub hl [2, 3, 1, 0] rfl)
theorem hX4_fewerThan : yX4_fewerThan.cls = RX4 ∧ yX4_fewerThan.cls ≠ "java/lang/invoke/MethodHandle" ∧ yX4_fewerThan.cls ≠ "java/lang/invoke/VarHandle" ∧ (parseMethodDescriptor yX4_fewerThan.desc).map (fun d => d.parameters.length) = some 1 := by decide +kernel
set_option maxHeartbeats 4000000 in
set_option maxRecDepth 100000 in
theorem kX4_fewerThan (l : Launch) (D : va_G) (g : zG) (ad : Nat → Nat) (σ : zSt) (x1 : Int32) (o : Int64) (h : fX4_fewerThan σ x1 = some o) : zMl l D g 0 ad yX4_fewerThan (Cond.code yX4_fewerThan cX4_fewerThan 5 (some .long) :: zws) (zRm 0) [.ref (ad 8), .int x1] σ o σ := by
  refine z_enter_l (by decide) (Nat.le_of_ble_eq_true rfl) ?_
  intro p e s m below meth c A ls Q C hw hl hret
  obtain ⟨hx, hb, hml, hown, hts, hK, hA⟩ := id C
  have hown : s.vm.findClass RX4 = some m.cls := hown
  have C : zCx p c cX4_fewerThan s _ RX4 m 5 A s.heap D g := C
  have hl : lv_has ls 5 [(0, .ref (ad 8)), (1, .int x1)] := hl
  unfold fX4_fewerThan at h
  refine lv_lconst (v := 0) hx hb dX4_fewerThan_0 (by decide) ?_
  refine lv_lstore_n (lv' := [(2, .long (0 : Int64)), (0, .ref (ad 8)), (1, .int x1)]) hx hb dX4_fewerThan_1 rfl hl (by decide) rfl (fun ls hl => ?_)
  refine lv_iconst (v := 0) hx hb dX4_fewerThan_2 (by decide) ?_
  refine lv_istore (lv' := [(4, .int (0 : Int32)), (2, .long (0 : Int64)), (0, .ref (ad 8)), (1, .int x1)]) hx hb dX4_fewerThan_3 hl (by decide) rfl (fun ls hl => ?_)
  obtain ⟨b1, e2, h⟩ := zbind h
  refine wX4_fewerThan_5 C σ x1 zFU ((0 : Int64), (0 : Int32)) b1 e2 (fun H locs ls hw hl => ?_) _ _ _ hw (lv_sub hl [2, 3, 1, 0] rfl)
  have hl : lv_has ls 5 [(0, .ref (ad 8)), (1, .int x1), (2, .long b1.1), (4, .int b1.2)] := hl
  refine lv_lload_n hx hb dX4_fewerThan_34 rfl (lv_at hl 2 rfl) ?_
  obtain rfl := Option.some.inj h
  exact hret _ _ _ _ hw dX4_fewerThan_35
set_option maxHeartbeats 4000000 in
set_option maxRecDepth 100000 in
theorem wX4_minutesOf_4 {p : Program} {l : Launch} {e : Env} {s : State} {m : MethodId} {args : Array Value} {below : List Frame} {meth : Method} {c : Code} {A : Nat → Prop} {H0 : Heap} {Q : State → Prop} {D : va_G} {g : zG} {ad : Nat → Nat} (C : zCx p c cX4_minutesOf s args RX4 m 4 A H0 D g) (σ : zSt) (x1 : Int32) (n : Nat) (a : (Int32 × Int32)) (b : (Int32 × Int32)) (h : zLp (fun a => bX4_minutesOf_4 σ x1 a.1 a.2) n a = some b) (hk : ∀ (H : Heap) (locs : List Loc) (ls : Array Slot), zH D g 0 ad A H0 σ H locs → lv_has ls 4 [(0, .ref (ad 8)), (1, .int x1), (2, .int b.1), (3, .int b.2)] → W p l e (zRm 0) s m args below meth c H locs 0 0 Q (F0 m 35 ls [])) : ∀ (H : Heap) (locs : List Loc) (ls : Array Slot), zH D g 0 ad A H0 σ H locs → lv_has ls 4 [(0, .ref (ad 8)), (1, .int x1), (2, .int a.1), (3, .int a.2)] → W p l e (zRm 0) s m args below meth c H locs 0 0 Q (F0 m 4 ls []) := by
  obtain ⟨hx, hb, hml, hown, hts, hK, hA⟩ := id C
  refine zLp_walk (P := fun (a : (Int32 × Int32)) => ∀ (H : Heap) (locs : List Loc) (ls : Array Slot), zH D g 0 ad A H0 σ H locs → lv_has ls 4 [(0, .ref (ad 8)), (1, .int x1), (2, .int a.1), (3, .int a.2)] → W p l e (zRm 0) s m args below meth c H locs 0 0 Q (F0 m 4 ls [])) (E := fun (b' : (Int32 × Int32)) => b' = b) ?_ n a b h rfl
  intro a r h hn he H locs ls hw hl
  obtain ⟨x2, x3⟩ := a
  have h : bX4_minutesOf_4 σ x1 x2 x3 = some r := h
  have hl : lv_has ls 4 [(0, .ref (ad 8)), (1, .int x1), (2, .int x2), (3, .int x3)] := hl
  have hw : zH D g 0 ad A H0 σ H locs := hw
  unfold bX4_minutesOf_4 at h
  refine lv_iload_n hx hb dX4_minutesOf_4 rfl (lv_at hl 3 rfl) ?_
  refine lv_aload_n hx hb dX4_minutesOf_5 rfl (lv_at hl 0 rfl) ?_
  refine z_geti hx hb hts zin_X4 hown hK hw zF0_8_1 (hts _ zw_244) dX4_minutesOf_6 ?_
  refine lv_icmp_ge (tgt := 35) hx hb dX4_minutesOf_9 (by decide) (fun t1 => ?_) (fun t1 => ?_)
  · rw [if_pos t1] at h
    obtain rfl := Option.some.inj h
    obtain rfl := he _ rfl
    exact hk _ _ _ hw (lv_sub hl [0, 1, 2, 3] rfl)
  · rw [if_neg t1] at h
    refine lv_iload_n hx hb dX4_minutesOf_12 rfl (lv_at hl 2 rfl) ?_
    refine lv_iload_n hx hb dX4_minutesOf_13 rfl (lv_at hl 1 rfl) ?_
    refine lv_iload_n hx hb dX4_minutesOf_14 rfl (lv_at hl 3 rfl) ?_
    refine lv_ishr hx hb dX4_minutesOf_15 ?_
    refine lv_iconst (v := 1) hx hb dX4_minutesOf_16 (by decide) ?_
    refine lv_iand hx hb dX4_minutesOf_17 ?_
    refine lv_aload_n hx hb dX4_minutesOf_18 rfl (lv_at hl 0 rfl) ?_
    refine z_getc hx hb hts zin_X4 hown hK hw zF0_8_0 (hts _ zw_242) dX4_minutesOf_19 ?_
    refine lv_iload_n hx hb dX4_minutesOf_22 rfl (lv_at hl 3 rfl) ?_
    obtain ⟨q2, e3, h⟩ := zbind h
    refine z_aald hx hb hK hw e3 dX4_minutesOf_23 ?_
    refine lv_iconst (v := 4) hx hb dX4_minutesOf_24 (by decide) ?_
    obtain ⟨v4, e5, h⟩ := zbind h
    refine z_iald hx hb hK hw e5 dX4_minutesOf_25 ?_
    refine lv_imul hx hb dX4_minutesOf_26 ?_
    refine lv_iadd hx hb dX4_minutesOf_27 ?_
    refine lv_istore_n (lv' := [(2, .int (x2 + (((x1 >>> (x3 &&& 31)) &&& (1 : Int32)) * v4))), (0, .ref (ad 8)), (1, .int x1), (3, .int x3)]) hx hb dX4_minutesOf_28 rfl hl (by decide) rfl (fun ls hl => ?_)
    refine lv_iinc (v := x3 + 1) (lv' := [(3, .int (x3 + 1)), (2, .int (x2 + (((x1 >>> (x3 &&& 31)) &&& (1 : Int32)) * v4))), (0, .ref (ad 8)), (1, .int x1)]) hx hb dX4_minutesOf_29 hl (k := 3) rfl rfl (by decide) rfl (fun ls hl => ?_)
    refine lv_goto (tgt := 4) hx hb dX4_minutesOf_32 (by decide) ?_
    obtain rfl := Option.some.inj h
    exact hn _ rfl _ _ _ hw (lv_sub hl [2, 3, 1, 0] rfl)
theorem hX4_minutesOf : yX4_minutesOf.cls = RX4 ∧ yX4_minutesOf.cls ≠ "java/lang/invoke/MethodHandle" ∧ yX4_minutesOf.cls ≠ "java/lang/invoke/VarHandle" ∧ (parseMethodDescriptor yX4_minutesOf.desc).map (fun d => d.parameters.length) = some 1 := by decide +kernel
set_option maxHeartbeats 4000000 in
set_option maxRecDepth 100000 in
theorem kX4_minutesOf (l : Launch) (D : va_G) (g : zG) (ad : Nat → Nat) (σ : zSt) (x1 : Int32) (o : Int32) (h : fX4_minutesOf σ x1 = some o) : zMi l D g 0 ad yX4_minutesOf (Cond.code yX4_minutesOf cX4_minutesOf 4 (some .int) :: zws) (zRm 0) [.ref (ad 8), .int x1] σ o σ := by
  refine z_enter_i (by decide) (Nat.le_of_ble_eq_true rfl) ?_
  intro p e s m below meth c A ls Q C hw hl hret
  obtain ⟨hx, hb, hml, hown, hts, hK, hA⟩ := id C
  have hown : s.vm.findClass RX4 = some m.cls := hown
  have C : zCx p c cX4_minutesOf s _ RX4 m 4 A s.heap D g := C
  have hl : lv_has ls 4 [(0, .ref (ad 8)), (1, .int x1)] := hl
  unfold fX4_minutesOf at h
  refine lv_iconst (v := 0) hx hb dX4_minutesOf_0 (by decide) ?_
  refine lv_istore_n (lv' := [(2, .int (0 : Int32)), (0, .ref (ad 8)), (1, .int x1)]) hx hb dX4_minutesOf_1 rfl hl (by decide) rfl (fun ls hl => ?_)
  refine lv_iconst (v := 0) hx hb dX4_minutesOf_2 (by decide) ?_
  refine lv_istore_n (lv' := [(3, .int (0 : Int32)), (2, .int (0 : Int32)), (0, .ref (ad 8)), (1, .int x1)]) hx hb dX4_minutesOf_3 rfl hl (by decide) rfl (fun ls hl => ?_)
  obtain ⟨b1, e2, h⟩ := zbind h
  refine wX4_minutesOf_4 C σ x1 zFU ((0 : Int32), (0 : Int32)) b1 e2 (fun H locs ls hw hl => ?_) _ _ _ hw (lv_sub hl [2, 3, 1, 0] rfl)
  have hl : lv_has ls 4 [(0, .ref (ad 8)), (1, .int x1), (2, .int b1.1), (3, .int b1.2)] := hl
  refine lv_iload_n hx hb dX4_minutesOf_35 rfl (lv_at hl 2 rfl) ?_
  obtain rfl := Option.some.inj h
  exact hret _ _ _ _ hw rfl dX4_minutesOf_36
set_option maxHeartbeats 4000000 in
set_option maxRecDepth 100000 in
theorem wX4_gainOf_4 {p : Program} {l : Launch} {e : Env} {s : State} {m : MethodId} {args : Array Value} {below : List Frame} {meth : Method} {c : Code} {A : Nat → Prop} {H0 : Heap} {Q : State → Prop} {D : va_G} {g : zG} {ad : Nat → Nat} (C : zCx p c cX4_gainOf s args RX4 m 4 A H0 D g) (σ : zSt) (x1 : Int32) (n : Nat) (a : (Int32 × Int32)) (b : (Int32 × Int32)) (h : zLp (fun a => bX4_gainOf_4 σ x1 a.1 a.2) n a = some b) (hk : ∀ (H : Heap) (locs : List Loc) (ls : Array Slot), zH D g 0 ad A H0 σ H locs → lv_has ls 4 [(0, .ref (ad 8)), (1, .int x1), (2, .int b.1), (3, .int b.2)] → W p l e (zRm 0) s m args below meth c H locs 0 0 Q (F0 m 48 ls [])) : ∀ (H : Heap) (locs : List Loc) (ls : Array Slot), zH D g 0 ad A H0 σ H locs → lv_has ls 4 [(0, .ref (ad 8)), (1, .int x1), (2, .int a.1), (3, .int a.2)] → W p l e (zRm 0) s m args below meth c H locs 0 0 Q (F0 m 4 ls []) := by
  obtain ⟨hx, hb, hml, hown, hts, hK, hA⟩ := id C
  refine zLp_walk (P := fun (a : (Int32 × Int32)) => ∀ (H : Heap) (locs : List Loc) (ls : Array Slot), zH D g 0 ad A H0 σ H locs → lv_has ls 4 [(0, .ref (ad 8)), (1, .int x1), (2, .int a.1), (3, .int a.2)] → W p l e (zRm 0) s m args below meth c H locs 0 0 Q (F0 m 4 ls [])) (E := fun (b' : (Int32 × Int32)) => b' = b) ?_ n a b h rfl
  intro a r h hn he H locs ls hw hl
  obtain ⟨x2, x3⟩ := a
  have h : bX4_gainOf_4 σ x1 x2 x3 = some r := h
  have hl : lv_has ls 4 [(0, .ref (ad 8)), (1, .int x1), (2, .int x2), (3, .int x3)] := hl
  have hw : zH D g 0 ad A H0 σ H locs := hw
  unfold bX4_gainOf_4 at h
  refine lv_iload_n hx hb dX4_gainOf_4 rfl (lv_at hl 3 rfl) ?_
  refine lv_aload_n hx hb dX4_gainOf_5 rfl (lv_at hl 0 rfl) ?_
  refine z_geti hx hb hts zin_X4 hown hK hw zF0_8_1 (hts _ zw_244) dX4_gainOf_6 ?_
  refine lv_icmp_ge (tgt := 48) hx hb dX4_gainOf_9 (by decide) (fun t1 => ?_) (fun t1 => ?_)
  · rw [if_pos t1] at h
    obtain rfl := Option.some.inj h
    obtain rfl := he _ rfl
    exact hk _ _ _ hw (lv_sub hl [0, 1, 2, 3] rfl)
  · rw [if_neg t1] at h
    refine lv_iload_n hx hb dX4_gainOf_12 rfl (lv_at hl 2 rfl) ?_
    refine lv_iload_n hx hb dX4_gainOf_13 rfl (lv_at hl 1 rfl) ?_
    refine lv_iload_n hx hb dX4_gainOf_14 rfl (lv_at hl 3 rfl) ?_
    refine lv_ishr hx hb dX4_gainOf_15 ?_
    refine lv_iconst (v := 1) hx hb dX4_gainOf_16 (by decide) ?_
    refine lv_iand hx hb dX4_gainOf_17 ?_
    refine lv_aload_n hx hb dX4_gainOf_18 rfl (lv_at hl 0 rfl) ?_
    refine z_getc hx hb hts zin_X4 hown hK hw zF0_8_0 (hts _ zw_242) dX4_gainOf_19 ?_
    refine lv_iload_n hx hb dX4_gainOf_22 rfl (lv_at hl 3 rfl) ?_
    obtain ⟨q2, e3, h⟩ := zbind h
    refine z_aald hx hb hK hw e3 dX4_gainOf_23 ?_
    refine lv_iconst (v := 3) hx hb dX4_gainOf_24 (by decide) ?_
    obtain ⟨v4, e5, h⟩ := zbind h
    refine z_iald hx hb hK hw e5 dX4_gainOf_25 ?_
    refine lv_imul hx hb dX4_gainOf_26 ?_
    refine lv_sipush (v := 1000) hx hb dX4_gainOf_27 (by decide) ?_
    refine lv_aload_n hx hb dX4_gainOf_30 rfl (lv_at hl 0 rfl) ?_
    refine z_getc hx hb hts zin_X4 hown hK hw zF0_8_0 (hts _ zw_242) dX4_gainOf_31 ?_
    refine lv_iload_n hx hb dX4_gainOf_34 rfl (lv_at hl 3 rfl) ?_
    obtain ⟨q6, e7, h⟩ := zbind h
    refine z_aald hx hb hK hw e7 dX4_gainOf_35 ?_
    refine lv_iconst (v := 5) hx hb dX4_gainOf_36 (by decide) ?_
    obtain ⟨v8, e9, h⟩ := zbind h
    refine z_iald hx hb hK hw e9 dX4_gainOf_37 ?_
    refine lv_isub hx hb dX4_gainOf_38 ?_
    refine lv_imul hx hb dX4_gainOf_39 ?_
    refine lv_iadd hx hb dX4_gainOf_40 ?_
    refine lv_istore_n (lv' := [(2, .int (x2 + ((((x1 >>> (x3 &&& 31)) &&& (1 : Int32)) * v4) * ((1000 : Int32) - v8)))), (0, .ref (ad 8)), (1, .int x1), (3, .int x3)]) hx hb dX4_gainOf_41 rfl hl (by decide) rfl (fun ls hl => ?_)
    refine lv_iinc (v := x3 + 1) (lv' := [(3, .int (x3 + 1)), (2, .int (x2 + ((((x1 >>> (x3 &&& 31)) &&& (1 : Int32)) * v4) * ((1000 : Int32) - v8)))), (0, .ref (ad 8)), (1, .int x1)]) hx hb dX4_gainOf_42 hl (k := 3) rfl rfl (by decide) rfl (fun ls hl => ?_)
    refine lv_goto (tgt := 4) hx hb dX4_gainOf_45 (by decide) ?_
    obtain rfl := Option.some.inj h
    exact hn _ rfl _ _ _ hw (lv_sub hl [2, 3, 1, 0] rfl)
theorem hX4_gainOf : yX4_gainOf.cls = RX4 ∧ yX4_gainOf.cls ≠ "java/lang/invoke/MethodHandle" ∧ yX4_gainOf.cls ≠ "java/lang/invoke/VarHandle" ∧ (parseMethodDescriptor yX4_gainOf.desc).map (fun d => d.parameters.length) = some 1 := by decide +kernel
set_option maxHeartbeats 4000000 in
set_option maxRecDepth 100000 in
theorem kX4_gainOf (l : Launch) (D : va_G) (g : zG) (ad : Nat → Nat) (σ : zSt) (x1 : Int32) (o : Int32) (h : fX4_gainOf σ x1 = some o) : zMi l D g 0 ad yX4_gainOf (Cond.code yX4_gainOf cX4_gainOf 4 (some .int) :: zws) (zRm 0) [.ref (ad 8), .int x1] σ o σ := by
  refine z_enter_i (by decide) (Nat.le_of_ble_eq_true rfl) ?_
  intro p e s m below meth c A ls Q C hw hl hret
  obtain ⟨hx, hb, hml, hown, hts, hK, hA⟩ := id C
  have hown : s.vm.findClass RX4 = some m.cls := hown
  have C : zCx p c cX4_gainOf s _ RX4 m 4 A s.heap D g := C
  have hl : lv_has ls 4 [(0, .ref (ad 8)), (1, .int x1)] := hl
  unfold fX4_gainOf at h
  refine lv_iconst (v := 0) hx hb dX4_gainOf_0 (by decide) ?_
  refine lv_istore_n (lv' := [(2, .int (0 : Int32)), (0, .ref (ad 8)), (1, .int x1)]) hx hb dX4_gainOf_1 rfl hl (by decide) rfl (fun ls hl => ?_)
  refine lv_iconst (v := 0) hx hb dX4_gainOf_2 (by decide) ?_
  refine lv_istore_n (lv' := [(3, .int (0 : Int32)), (2, .int (0 : Int32)), (0, .ref (ad 8)), (1, .int x1)]) hx hb dX4_gainOf_3 rfl hl (by decide) rfl (fun ls hl => ?_)
  obtain ⟨b1, e2, h⟩ := zbind h
  refine wX4_gainOf_4 C σ x1 zFU ((0 : Int32), (0 : Int32)) b1 e2 (fun H locs ls hw hl => ?_) _ _ _ hw (lv_sub hl [2, 3, 1, 0] rfl)
  have hl : lv_has ls 4 [(0, .ref (ad 8)), (1, .int x1), (2, .int b1.1), (3, .int b1.2)] := hl
  refine lv_iload_n hx hb dX4_gainOf_48 rfl (lv_at hl 2 rfl) ?_
  obtain rfl := Option.some.inj h
  exact hret _ _ _ _ hw rfl dX4_gainOf_49
theorem hX4_isBetter : yX4_isBetter.cls = RX4 ∧ yX4_isBetter.cls ≠ "java/lang/invoke/MethodHandle" ∧ yX4_isBetter.cls ≠ "java/lang/invoke/VarHandle" ∧ (parseMethodDescriptor yX4_isBetter.desc).map (fun d => d.parameters.length) = some 2 := by decide +kernel
set_option maxHeartbeats 4000000 in
set_option maxRecDepth 100000 in
theorem kX4_isBetter (l : Launch) (D : va_G) (g : zG) (ad : Nat → Nat) (σ : zSt) (x1 : Int32) (x2 : Int32) (o : Int32) (h : fX4_isBetter σ x1 x2 = some o) : zMi l D g 0 ad yX4_isBetter (Cond.code yX4_isBetter cX4_isBetter 5 (some .boolean) :: zws) (zRm 1) [.ref (ad 8), .int x1, .int x2] σ o σ := by
  refine z_enter_i (by decide) (Nat.le_of_ble_eq_true rfl) ?_
  intro p e s m below meth c A ls Q C hw hl hret
  obtain ⟨hx, hb, hml, hown, hts, hK, hA⟩ := id C
  have hown : s.vm.findClass RX4 = some m.cls := hown
  have C : zCx p c cX4_isBetter s _ RX4 m 5 A s.heap D g := C
  have hl : lv_has ls 5 [(0, .ref (ad 8)), (1, .int x1), (2, .int x2)] := hl
  unfold fX4_isBetter at h
  refine lv_aload_n hx hb dX4_isBetter_0 rfl (lv_at hl 0 rfl) ?_
  refine lv_iload_n hx hb dX4_isBetter_1 rfl (lv_at hl 1 rfl) ?_
  obtain ⟨r1, e2, h⟩ := zbind h
  refine z_cVi (As := [.int x1]) (rest := []) ⟨hx, hb, hml, hown, hts⟩ hK hw hA (kX4_gainOf l D g ad σ x1 r1 e2) (zcwV 1 hts zgoodIn zw_674 zw_676 zw_16 zw_61 zw_677 rfl rfl hX4_gainOf ⟨Nat.le_of_ble_eq_true rfl, Nat.le_of_ble_eq_true rfl⟩) zO0_8 rfl hl.1 rfl (Nat.le_of_ble_eq_true rfl) dX4_isBetter_2 ⟨Nat.zero_le _, Nat.zero_le _⟩ (fun H locs hw => ?_)
  refine lv_istore_n (lv' := [(3, .int r1), (0, .ref (ad 8)), (1, .int x1), (2, .int x2)]) hx hb dX4_isBetter_5 rfl hl (by decide) rfl (fun ls hl => ?_)
  refine lv_aload_n hx hb dX4_isBetter_6 rfl (lv_at hl 1 rfl) ?_
  refine lv_iload_n hx hb dX4_isBetter_7 rfl (lv_at hl 3 rfl) ?_
  obtain ⟨r3, e4, h⟩ := zbind h
  refine z_cVi (As := [.int x2]) (rest := []) ⟨hx, hb, hml, hown, hts⟩ hK hw hA (kX4_gainOf l D g ad σ x2 r3 e4) (zcwV 1 hts zgoodIn zw_674 zw_676 zw_16 zw_61 zw_677 rfl rfl hX4_gainOf ⟨Nat.le_of_ble_eq_true rfl, Nat.le_of_ble_eq_true rfl⟩) zO0_8 rfl hl.1 rfl (Nat.le_of_ble_eq_true rfl) dX4_isBetter_8 ⟨Nat.zero_le _, Nat.zero_le _⟩ (fun H locs hw => ?_)
  refine lv_istore (lv' := [(4, .int r3), (3, .int r1), (0, .ref (ad 8)), (1, .int x1), (2, .int x2)]) hx hb dX4_isBetter_11 hl (by decide) rfl (fun ls hl => ?_)
  refine lv_iload_n hx hb dX4_isBetter_13 rfl (lv_at hl 1 rfl) ?_
  refine lv_iload hx hb dX4_isBetter_14 (lv_at hl 0 rfl) ?_
  refine lv_icmp_gt (tgt := 38) hx hb dX4_isBetter_16 (by decide) (fun t5 => ?_) (fun t5 => ?_)
  · rw [if_pos t5] at h
    refine lv_iconst (v := 1) hx hb dX4_isBetter_38 (by decide) ?_
    refine lv_goto (tgt := 43) hx hb dX4_isBetter_39 (by decide) ?_
    obtain rfl := Option.some.inj h
    exact hret _ _ _ _ hw zb1 dX4_isBetter_43
  · rw [if_neg t5] at h
    refine lv_iload_n hx hb dX4_isBetter_19 rfl (lv_at hl 1 rfl) ?_
    refine lv_iload hx hb dX4_isBetter_20 (lv_at hl 0 rfl) ?_
    refine lv_icmp_ne (tgt := 42) hx hb dX4_isBetter_22 (by decide) (fun t6 => ?_) (fun t6 => ?_)
    · rw [if_neg t6] at h
      refine lv_iconst (v := 0) hx hb dX4_isBetter_42 (by decide) ?_
      obtain rfl := Option.some.inj h
      exact hret _ _ _ _ hw zb0 dX4_isBetter_43
    · rw [if_pos t6] at h
      refine lv_aload_n hx hb dX4_isBetter_25 rfl (lv_at hl 2 rfl) ?_
      refine lv_iload_n hx hb dX4_isBetter_26 rfl (lv_at hl 3 rfl) ?_
      obtain ⟨r7, e8, h⟩ := zbind h
      refine z_cVi (As := [.int x1]) (rest := []) ⟨hx, hb, hml, hown, hts⟩ hK hw hA (kX4_minutesOf l D g ad σ x1 r7 e8) (zcwV 1 hts zgoodIn zw_666 zw_668 zw_14 zw_61 zw_669 rfl rfl hX4_minutesOf ⟨Nat.le_of_ble_eq_true rfl, Nat.le_of_ble_eq_true rfl⟩) zO0_8 rfl hl.1 rfl (Nat.le_of_ble_eq_true rfl) dX4_isBetter_27 ⟨Nat.zero_le _, Nat.zero_le _⟩ (fun H locs hw => ?_)
      refine lv_aload_n hx hb dX4_isBetter_30 rfl (lv_at hl 2 rfl) ?_
      refine lv_iload_n hx hb dX4_isBetter_31 rfl (lv_at hl 4 rfl) ?_
      obtain ⟨r9, e10, h⟩ := zbind h
      refine z_cVi (As := [.int x2]) (rest := [.int r7]) ⟨hx, hb, hml, hown, hts⟩ hK hw hA (kX4_minutesOf l D g ad σ x2 r9 e10) (zcwV 1 hts zgoodIn zw_666 zw_668 zw_14 zw_61 zw_669 rfl rfl hX4_minutesOf ⟨Nat.le_of_ble_eq_true rfl, Nat.le_of_ble_eq_true rfl⟩) zO0_8 rfl hl.1 rfl (Nat.le_of_ble_eq_true rfl) dX4_isBetter_32 ⟨Nat.zero_le _, Nat.zero_le _⟩ (fun H locs hw => ?_)
      refine lv_icmp_ge (tgt := 42) hx hb dX4_isBetter_35 (by decide) (fun t11 => ?_) (fun t11 => ?_)
      · rw [if_pos t11] at h
        refine lv_iconst (v := 0) hx hb dX4_isBetter_42 (by decide) ?_
        obtain rfl := Option.some.inj h
        exact hret _ _ _ _ hw zb0 dX4_isBetter_43
      · rw [if_neg t11] at h
        refine lv_iconst (v := 1) hx hb dX4_isBetter_38 (by decide) ?_
        refine lv_goto (tgt := 43) hx hb dX4_isBetter_39 (by decide) ?_
        obtain rfl := Option.some.inj h
        exact hret _ _ _ _ hw zb1 dX4_isBetter_43
set_option maxHeartbeats 4000000 in
set_option maxRecDepth 100000 in
theorem wX4_bestSet_4 {p : Program} {l : Launch} {e : Env} {s : State} {m : MethodId} {args : Array Value} {below : List Frame} {meth : Method} {c : Code} {A : Nat → Prop} {H0 : Heap} {Q : State → Prop} {D : va_G} {g : zG} {ad : Nat → Nat} (C : zCx p c cX4_bestSet s args RX4 m 4 A H0 D g) (σ : zSt) (x1 : Int32) (n : Nat) (a : (Int32 × Int32)) (b : (Int32 × Int32)) (h : zLp (fun a => bX4_bestSet_4 σ x1 a.1 a.2) n a = some b) (hk : ∀ (H : Heap) (locs : List Loc) (ls : Array Slot), zH D g 0 ad A H0 σ H locs → lv_has ls 4 [(0, .ref (ad 8)), (1, .int x1), (2, .int b.1), (3, .int b.2)] → W p l e (zRm 2) s m args below meth c H locs 0 0 Q (F0 m 40 ls [])) : ∀ (H : Heap) (locs : List Loc) (ls : Array Slot), zH D g 0 ad A H0 σ H locs → lv_has ls 4 [(0, .ref (ad 8)), (1, .int x1), (2, .int a.1), (3, .int a.2)] → W p l e (zRm 2) s m args below meth c H locs 0 0 Q (F0 m 4 ls []) := by
  obtain ⟨hx, hb, hml, hown, hts, hK, hA⟩ := id C
  refine zLp_walk (P := fun (a : (Int32 × Int32)) => ∀ (H : Heap) (locs : List Loc) (ls : Array Slot), zH D g 0 ad A H0 σ H locs → lv_has ls 4 [(0, .ref (ad 8)), (1, .int x1), (2, .int a.1), (3, .int a.2)] → W p l e (zRm 2) s m args below meth c H locs 0 0 Q (F0 m 4 ls [])) (E := fun (b' : (Int32 × Int32)) => b' = b) ?_ n a b h rfl
  intro a r h hn he H locs ls hw hl
  obtain ⟨x2, x3⟩ := a
  have h : bX4_bestSet_4 σ x1 x2 x3 = some r := h
  have hl : lv_has ls 4 [(0, .ref (ad 8)), (1, .int x1), (2, .int x2), (3, .int x3)] := hl
  have hw : zH D g 0 ad A H0 σ H locs := hw
  unfold bX4_bestSet_4 at h
  refine lv_iload_n hx hb dX4_bestSet_4 rfl (lv_at hl 3 rfl) ?_
  refine lv_iconst (v := 1) hx hb dX4_bestSet_5 (by decide) ?_
  refine lv_aload_n hx hb dX4_bestSet_6 rfl (lv_at hl 0 rfl) ?_
  refine z_geti hx hb hts zin_X4 hown hK hw zF0_8_1 (hts _ zw_244) dX4_bestSet_7 ?_
  refine lv_ishl hx hb dX4_bestSet_10 ?_
  refine lv_icmp_ge (tgt := 40) hx hb dX4_bestSet_11 (by decide) (fun t1 => ?_) (fun t1 => ?_)
  · rw [if_pos t1] at h
    obtain rfl := Option.some.inj h
    obtain rfl := he _ rfl
    exact hk _ _ _ hw (lv_sub hl [0, 1, 2, 3] rfl)
  · rw [if_neg t1] at h
    refine lv_aload_n hx hb dX4_bestSet_14 rfl (lv_at hl 0 rfl) ?_
    refine lv_iload_n hx hb dX4_bestSet_15 rfl (lv_at hl 3 rfl) ?_
    obtain ⟨r2, e3, h⟩ := zbind h
    refine z_cVi (As := [.int x3]) (rest := []) ⟨hx, hb, hml, hown, hts⟩ hK hw hA (kX4_minutesOf l D g ad σ x3 r2 e3) (zcwV 1 hts zgoodIn zw_666 zw_668 zw_14 zw_61 zw_669 rfl rfl hX4_minutesOf ⟨Nat.le_of_ble_eq_true rfl, Nat.le_of_ble_eq_true rfl⟩) zO0_8 rfl hl.1 rfl (Nat.le_of_ble_eq_true rfl) dX4_bestSet_16 ⟨Nat.zero_le _, Nat.zero_le _⟩ (fun H locs hw => ?_)
    refine lv_iload_n hx hb dX4_bestSet_19 rfl (lv_at hl 1 rfl) ?_
    refine lv_icmp_gt (tgt := 34) hx hb dX4_bestSet_20 (by decide) (fun t4 => ?_) (fun t4 => ?_)
    · rw [if_pos t4] at h
      refine lv_iinc (v := x3 + 1) (lv' := [(3, .int (x3 + 1)), (0, .ref (ad 8)), (1, .int x1), (2, .int x2)]) hx hb dX4_bestSet_34 hl (k := 3) rfl rfl (by decide) rfl (fun ls hl => ?_)
      refine lv_goto (tgt := 4) hx hb dX4_bestSet_37 (by decide) ?_
      obtain rfl := Option.some.inj h
      exact hn _ rfl _ _ _ hw (lv_sub hl [1, 2, 3, 0] rfl)
    · rw [if_neg t4] at h
      refine lv_aload_n hx hb dX4_bestSet_23 rfl (lv_at hl 0 rfl) ?_
      refine lv_iload_n hx hb dX4_bestSet_24 rfl (lv_at hl 3 rfl) ?_
      refine lv_iload_n hx hb dX4_bestSet_25 rfl (lv_at hl 2 rfl) ?_
      obtain ⟨r5, e6, h⟩ := zbind h
      refine z_cVi (As := [.int x3, .int x2]) (rest := []) ⟨hx, hb, hml, hown, hts⟩ hK hw hA (kX4_isBetter l D g ad σ x3 x2 r5 e6) (zcwV 2 hts zgoodIn zw_670 zw_672 zw_15 zw_61 zw_673 rfl rfl hX4_isBetter ⟨Nat.le_of_ble_eq_true rfl, Nat.le_of_ble_eq_true rfl⟩) zO0_8 rfl hl.1 rfl (Nat.le_of_ble_eq_true rfl) dX4_bestSet_26 ⟨Nat.zero_le _, Nat.zero_le _⟩ (fun H locs hw => ?_)
      refine lv_if_eq (tgt := 34) hx hb dX4_bestSet_29 (by decide) (fun t7 => ?_) (fun t7 => ?_)
      · rw [if_pos t7] at h
        refine lv_iinc (v := x3 + 1) (lv' := [(3, .int (x3 + 1)), (0, .ref (ad 8)), (1, .int x1), (2, .int x2)]) hx hb dX4_bestSet_34 hl (k := 3) rfl rfl (by decide) rfl (fun ls hl => ?_)
        refine lv_goto (tgt := 4) hx hb dX4_bestSet_37 (by decide) ?_
        obtain rfl := Option.some.inj h
        exact hn _ rfl _ _ _ hw (lv_sub hl [1, 2, 3, 0] rfl)
      · rw [if_neg t7] at h
        refine lv_iload_n hx hb dX4_bestSet_32 rfl (lv_at hl 3 rfl) ?_
        refine lv_istore_n (lv' := [(2, .int x3), (0, .ref (ad 8)), (1, .int x1), (3, .int x3)]) hx hb dX4_bestSet_33 rfl hl (by decide) rfl (fun ls hl => ?_)
        refine lv_iinc (v := x3 + 1) (lv' := [(3, .int (x3 + 1)), (2, .int x3), (0, .ref (ad 8)), (1, .int x1)]) hx hb dX4_bestSet_34 hl (k := 3) rfl rfl (by decide) rfl (fun ls hl => ?_)
        refine lv_goto (tgt := 4) hx hb dX4_bestSet_37 (by decide) ?_
        obtain rfl := Option.some.inj h
        exact hn _ rfl _ _ _ hw (lv_sub hl [2, 3, 1, 0] rfl)
theorem hX4_bestSet : yX4_bestSet.cls = RX4 ∧ yX4_bestSet.cls ≠ "java/lang/invoke/MethodHandle" ∧ yX4_bestSet.cls ≠ "java/lang/invoke/VarHandle" ∧ (parseMethodDescriptor yX4_bestSet.desc).map (fun d => d.parameters.length) = some 1 := by decide +kernel
set_option maxHeartbeats 4000000 in
set_option maxRecDepth 100000 in
theorem kX4_bestSet (l : Launch) (D : va_G) (g : zG) (ad : Nat → Nat) (σ : zSt) (x1 : Int32) (o : Int32) (h : fX4_bestSet σ x1 = some o) : zMi l D g 0 ad yX4_bestSet (Cond.code yX4_bestSet cX4_bestSet 4 (some .int) :: zws) (zRm 2) [.ref (ad 8), .int x1] σ o σ := by
  refine z_enter_i (by decide) (Nat.le_of_ble_eq_true rfl) ?_
  intro p e s m below meth c A ls Q C hw hl hret
  obtain ⟨hx, hb, hml, hown, hts, hK, hA⟩ := id C
  have hown : s.vm.findClass RX4 = some m.cls := hown
  have C : zCx p c cX4_bestSet s _ RX4 m 4 A s.heap D g := C
  have hl : lv_has ls 4 [(0, .ref (ad 8)), (1, .int x1)] := hl
  unfold fX4_bestSet at h
  refine lv_iconst (v := 0) hx hb dX4_bestSet_0 (by decide) ?_
  refine lv_istore_n (lv' := [(2, .int (0 : Int32)), (0, .ref (ad 8)), (1, .int x1)]) hx hb dX4_bestSet_1 rfl hl (by decide) rfl (fun ls hl => ?_)
  refine lv_iconst (v := 1) hx hb dX4_bestSet_2 (by decide) ?_
  refine lv_istore_n (lv' := [(3, .int (1 : Int32)), (2, .int (0 : Int32)), (0, .ref (ad 8)), (1, .int x1)]) hx hb dX4_bestSet_3 rfl hl (by decide) rfl (fun ls hl => ?_)
  obtain ⟨b1, e2, h⟩ := zbind h
  refine wX4_bestSet_4 C σ x1 zFU ((0 : Int32), (1 : Int32)) b1 e2 (fun H locs ls hw hl => ?_) _ _ _ hw (lv_sub hl [2, 3, 1, 0] rfl)
  have hl : lv_has ls 4 [(0, .ref (ad 8)), (1, .int x1), (2, .int b1.1), (3, .int b1.2)] := hl
  refine lv_iload_n hx hb dX4_bestSet_40 rfl (lv_at hl 2 rfl) ?_
  obtain rfl := Option.some.inj h
  exact hret _ _ _ _ hw rfl dX4_bestSet_41
theorem hX5_open : yX5_open.cls = RX5 ∧ yX5_open.cls ≠ "java/lang/invoke/MethodHandle" ∧ yX5_open.cls ≠ "java/lang/invoke/VarHandle" ∧ (parseMethodDescriptor yX5_open.desc).map (fun d => d.parameters.length) = some 3 := by decide +kernel
set_option maxHeartbeats 4000000 in
set_option maxRecDepth 100000 in
theorem kX5_open (l : Launch) (D : va_G) (g : zG) (ad : Nat → Nat) (σ : zSt) (x1 : Nat) (x2 : Int32) (x3 : Int32) (o : zSt) (h : fX5_open σ x1 x2 x3 = o) : zMv l D g 0 ad yX5_open (Cond.code yX5_open cX5_open 4 (none : Option Jvm.ClassFile.FieldType) :: zws) (zRm 0) [.ref (ad 2), .ref (ad x1), .int x2, .int x3] σ o := by
  refine z_enter_v (by decide) (Nat.le_of_ble_eq_true rfl) ?_
  intro p e s m below meth c A ls Q C hw hl hret
  obtain ⟨hx, hb, hml, hown, hts, hK, hA⟩ := id C
  have hown : s.vm.findClass RX5 = some m.cls := hown
  have C : zCx p c cX5_open s _ RX5 m 4 A s.heap D g := C
  have hl : lv_has ls 4 [(0, .ref (ad 2)), (1, .ref (ad x1)), (2, .int x2), (3, .int x3)] := hl
  unfold fX5_open at h
  refine lv_aload_n hx hb dX5_open_0 rfl (lv_at hl 0 rfl) ?_
  refine lv_aload_n hx hb dX5_open_1 rfl (lv_at hl 1 rfl) ?_
  refine z_putr hx hb hts zin_X5 tyX5_ok nmX5 hown hK hw zF0_2_3 (hts _ zw_111) zY0_2_3 dX5_open_2 (fun H locs hw => ?_)
  refine lv_aload_n hx hb dX5_open_5 rfl (lv_at hl 0 rfl) ?_
  refine lv_iload_n hx hb dX5_open_6 rfl (lv_at hl 2 rfl) ?_
  refine z_puti hx hb hts zin_X5 tyX5_ok nmX5 hown hK hw zF0_2_4 (hts _ zw_112) zY0_2_4 dX5_open_7 (fun H locs hw => ?_)
  refine lv_aload_n hx hb dX5_open_10 rfl (lv_at hl 0 rfl) ?_
  refine lv_iload_n hx hb dX5_open_11 rfl (lv_at hl 2 rfl) ?_
  refine z_puti hx hb hts zin_X5 tyX5_ok nmX5 hown hK hw zF0_2_5 (hts _ zw_113) zY0_2_5 dX5_open_12 (fun H locs hw => ?_)
  refine lv_aload_n hx hb dX5_open_15 rfl (lv_at hl 0 rfl) ?_
  refine lv_iload_n hx hb dX5_open_16 rfl (lv_at hl 2 rfl) ?_
  refine lv_iload_n hx hb dX5_open_17 rfl (lv_at hl 3 rfl) ?_
  refine lv_iadd hx hb dX5_open_18 ?_
  refine z_puti hx hb hts zin_X5 tyX5_ok nmX5 hown hK hw zF0_2_6 (hts _ zw_114) zY0_2_6 dX5_open_19 (fun H locs hw => ?_)
  subst h
  exact hret _ _ _ _ hw dX5_open_22
theorem hX5_place : yX5_place.cls = RX5 ∧ yX5_place.cls ≠ "java/lang/invoke/MethodHandle" ∧ yX5_place.cls ≠ "java/lang/invoke/VarHandle" ∧ (parseMethodDescriptor yX5_place.desc).map (fun d => d.parameters.length) = some 0 := by decide +kernel
set_option maxHeartbeats 4000000 in
set_option maxRecDepth 100000 in
theorem kX5_place (l : Launch) (D : va_G) (g : zG) (ad : Nat → Nat) (σ : zSt) (o : Int32) (h : fX5_place σ = o) : zMi l D g 0 ad yX5_place (Cond.code yX5_place cX5_place 1 (some .int) :: zws) (zRm 0) [.ref (ad 2)] σ o σ := by
  refine z_enter_i (by decide) (Nat.le_of_ble_eq_true rfl) ?_
  intro p e s m below meth c A ls Q C hw hl hret
  obtain ⟨hx, hb, hml, hown, hts, hK, hA⟩ := id C
  have hown : s.vm.findClass RX5 = some m.cls := hown
  have C : zCx p c cX5_place s _ RX5 m 1 A s.heap D g := C
  have hl : lv_has ls 1 [(0, .ref (ad 2))] := hl
  unfold fX5_place at h
  refine lv_aload_n hx hb dX5_place_0 rfl (lv_at hl 0 rfl) ?_
  refine z_geti hx hb hts zin_X5 hown hK hw zF0_2_5 (hts _ zw_113) dX5_place_1 ?_
  refine lv_aload_n hx hb dX5_place_4 rfl (lv_at hl 0 rfl) ?_
  refine z_geti hx hb hts zin_X5 hown hK hw zF0_2_4 (hts _ zw_112) dX5_place_5 ?_
  refine lv_isub hx hb dX5_place_8 ?_
  subst h
  exact hret _ _ _ _ hw rfl dX5_place_9
theorem hX5_takesSign : yX5_takesSign.cls = RX5 ∧ yX5_takesSign.cls ≠ "java/lang/invoke/MethodHandle" ∧ yX5_takesSign.cls ≠ "java/lang/invoke/VarHandle" ∧ (parseMethodDescriptor yX5_takesSign.desc).map (fun d => d.parameters.length) = some 1 := by decide +kernel
set_option maxHeartbeats 4000000 in
set_option maxRecDepth 100000 in
theorem kX5_takesSign (l : Launch) (D : va_G) (g : zG) (ad : Nat → Nat) (σ : zSt) (x1 : Int32) (o : Int32 × zSt) (h : fX5_takesSign σ x1 = some o) : zMi l D g 0 ad yX5_takesSign (Cond.code yX5_takesSign cX5_takesSign 2 (some .boolean) :: zws) (zRm 0) [.ref (ad 2), .int x1] σ o.1 o.2 := by
  refine z_enter_i (by decide) (Nat.le_of_ble_eq_true rfl) ?_
  intro p e s m below meth c A ls Q C hw hl hret
  obtain ⟨hx, hb, hml, hown, hts, hK, hA⟩ := id C
  have hown : s.vm.findClass RX5 = some m.cls := hown
  have C : zCx p c cX5_takesSign s _ RX5 m 2 A s.heap D g := C
  have hl : lv_has ls 2 [(0, .ref (ad 2)), (1, .int x1)] := hl
  unfold fX5_takesSign at h
  refine lv_aload_n hx hb dX5_takesSign_0 rfl (lv_at hl 0 rfl) ?_
  refine z_geti hx hb hts zin_X5 hown hK hw zF0_2_5 (hts _ zw_113) dX5_takesSign_1 ?_
  refine lv_aload_n hx hb dX5_takesSign_4 rfl (lv_at hl 0 rfl) ?_
  refine z_geti hx hb hts zin_X5 hown hK hw zF0_2_6 (hts _ zw_114) dX5_takesSign_5 ?_
  refine lv_icmp_ge (tgt := 24) hx hb dX5_takesSign_8 (by decide) (fun t1 => ?_) (fun t1 => ?_)
  · rw [if_pos t1] at h
    refine lv_iconst (v := 0) hx hb dX5_takesSign_24 (by decide) ?_
    obtain rfl := Option.some.inj h
    exact hret _ _ _ _ hw zb0 dX5_takesSign_25
  · rw [if_neg t1] at h
    refine lv_aload_n hx hb dX5_takesSign_11 rfl (lv_at hl 0 rfl) ?_
    refine z_getr hx hb hts zin_X5 hown hK hw zF0_2_3 (hts _ zw_111) dX5_takesSign_12 ?_
    refine lv_aload_n hx hb dX5_takesSign_15 rfl (lv_at hl 0 rfl) ?_
    refine z_geti hx hb hts zin_X5 hown hK hw zF0_2_5 (hts _ zw_113) dX5_takesSign_16 ?_
    obtain ⟨v2, e3, h⟩ := zbind h
    refine z_iald hx hb hK hw e3 dX5_takesSign_19 ?_
    refine lv_iload_n hx hb dX5_takesSign_20 rfl (lv_at hl 1 rfl) ?_
    refine lv_icmp_eq (tgt := 26) hx hb dX5_takesSign_21 (by decide) (fun t4 => ?_) (fun t4 => ?_)
    · rw [if_pos t4] at h
      refine lv_aload_n hx hb dX5_takesSign_26 rfl (lv_at hl 0 rfl) ?_
      refine lv_dup hx hb dX5_takesSign_27 rfl ?_
      refine z_geti hx hb hts zin_X5 hown hK hw zF0_2_5 (hts _ zw_113) dX5_takesSign_28 ?_
      refine lv_iconst (v := 1) hx hb dX5_takesSign_31 (by decide) ?_
      refine lv_iadd hx hb dX5_takesSign_32 ?_
      refine z_puti hx hb hts zin_X5 tyX5_ok nmX5 hown hK hw zF0_2_5 (hts _ zw_113) zY0_2_5 dX5_takesSign_33 (fun H locs hw => ?_)
      refine lv_iconst (v := 1) hx hb dX5_takesSign_36 (by decide) ?_
      obtain rfl := Option.some.inj h
      exact hret _ _ _ _ hw zb1 dX5_takesSign_37
    · rw [if_neg t4] at h
      refine lv_iconst (v := 0) hx hb dX5_takesSign_24 (by decide) ?_
      obtain rfl := Option.some.inj h
      exact hret _ _ _ _ hw zb0 dX5_takesSign_25
