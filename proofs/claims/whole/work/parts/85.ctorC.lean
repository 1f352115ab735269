/-! THE CONSTRUCTORS of the parts, by program -/
def adX0 (h0 : Nat) : Nat → Nat := fun j => if j = 10 then h0 else 0
def jsX0 : List Nat := [10]
set_option maxRecDepth 100000 in
theorem zwX0 (g : zG) (h0 : Nat) : zWs g 0 (adX0 h0) zS0 jsX0 = [(h0, .inr (0, [.int 0, .int 0, .int 0]))] := by
  unfold zWs jsX0
  simp only [List.map_cons, List.map_nil]
  rfl
theorem hiX0 : yX0_init.cls ≠ "java/lang/invoke/MethodHandle" ∧ yX0_init.cls ≠ "java/lang/invoke/VarHandle" ∧ (parseMethodDescriptor yX0_init.desc).map (fun d => d.parameters.length) = some 0 := by decide +kernel
abbrev zRcX0 : Room := { frames := 1, cells := 0, slots := 0, locals := 45 }
set_option maxHeartbeats 4000000 in
set_option maxRecDepth 100000 in
theorem kX0_init (l : Launch) (D : va_G) (g : zG) (h0 : Nat) : zCt l D g yX0_init (Cond.code yX0_init cX0_init 1 none :: zws) zRcX0 [.ref h0] [(h0, .inr (0, [.int 0, .int 0, .int 0]))] (fun ad => ad 10 = h0) (fun ad => zWs g 0 ad zS0 jsX0) := by
  refine z_enter_c (by decide) (Nat.le_of_ble_eq_true rfl) ?_
  intro p e s m below meth c A ls Q C hTb hin hP hD hS hl hret
  obtain ⟨hx, hb, hml, hown, hts, hK, hA⟩ := id C
  have hown : s.vm.findClass RX0 = some m.cls := hown
  have hin : meth.name = "<init>" := hin
  have hl : lv_has ls 1 [(0, .ref h0)] := hl
  refine lv_aload_n hx hb dX0_init_0 rfl (lv_at hl 0 rfl) ?_
  refine W.objInit hx hb hown (hts _ zw_282) (hts _ zw_73) (hts _ zw_74) rfl (by rw [hml]; exact hl.1) rfl dX0_init_1 (Nat.le_of_ble_eq_true rfl) (Nat.le_of_ble_eq_true rfl) ?_
  refine W.eq (g2 := F0 m 4 ls []) rfl ?_
  refine W.widen (k := 0) (n := 0) (Nat.le_of_ble_eq_true rfl) (Nat.le_of_ble_eq_true rfl) ?_
  exact hret _ _ _ _ (adX0 h0) rfl (by rw [zwX0]; exact hP) (by rw [zwX0]; exact hD) hS dX0_init_4
def adX1 (h0 : Nat) (q1 : Nat) (q2 : Nat) (q3 : Nat) : Nat → Nat := fun j => if j = 7 then h0 else if j = 69 then q1 else if j = 70 then q2 else if j = 71 then q3 else 0
def jsX1 : List Nat := [7, 69, 70, 71]
set_option maxRecDepth 100000 in
theorem zwX1 (g : zG) (h0 : Nat) (q1 : Nat) (q2 : Nat) (q3 : Nat) : zWs g 0 (adX1 h0 q1 q2 q3) zS0 jsX1 = ((([(h0, .inr (1, [.long 0, .ref q1, .ref q2, .ref q3]))] ++ [(q1, .inl (g.2.1, 6, .inr (.inl (fun _ => 0))))]) ++ [(q2, .inl (g.2.1, 6, .inr (.inl (fun _ => 0))))]) ++ [(q3, .inl (g.1, 6, .inl (fun _ => 0)))]) := by
  unfold zWs jsX1
  simp only [List.map_cons, List.map_nil]
  rfl
theorem hiX1 : yX1_init.cls ≠ "java/lang/invoke/MethodHandle" ∧ yX1_init.cls ≠ "java/lang/invoke/VarHandle" ∧ (parseMethodDescriptor yX1_init.desc).map (fun d => d.parameters.length) = some 0 := by decide +kernel
abbrev zRcX1 : Room := { frames := 1, cells := 3, slots := 18, locals := 45 }
set_option maxHeartbeats 4000000 in
set_option maxRecDepth 100000 in
theorem kX1_init (l : Launch) (D : va_G) (g : zG) (h0 : Nat) : zCt l D g yX1_init (Cond.code yX1_init cX1_init 1 none :: zws) zRcX1 [.ref h0] [(h0, .inr (1, [.long 0, .null, .null, .null]))] (fun ad => ad 7 = h0) (fun ad => zWs g 0 ad zS0 jsX1) := by
  refine z_enter_c (by decide) (Nat.le_of_ble_eq_true rfl) ?_
  intro p e s m below meth c A ls Q C hTb hin hP hD hS hl hret
  obtain ⟨hx, hb, hml, hown, hts, hK, hA⟩ := id C
  have hown : s.vm.findClass RX1 = some m.cls := hown
  have hin : meth.name = "<init>" := hin
  have hl : lv_has ls 1 [(0, .ref h0)] := hl
  refine lv_aload_n hx hb dX1_init_0 rfl (lv_at hl 0 rfl) ?_
  refine W.objInit hx hb hown (hts _ zw_219) (hts _ zw_73) (hts _ zw_74) rfl (by rw [hml]; exact hl.1) rfl dX1_init_1 (Nat.le_of_ble_eq_true rfl) (Nat.le_of_ble_eq_true rfl) ?_
  refine W.eq (g2 := F0 m 4 ls []) rfl ?_
  refine lv_aload_n hx hb dX1_init_4 rfl (lv_at hl 0 rfl) ?_
  refine lv_bipush (v := (6)) hx hb dX1_init_5 (by decide) ?_
  refine zc_newJ hx hb (hts _ zx_234) hK hP hD hS hA 6 (by decide) (by decide) (Nat.le_of_ble_eq_true rfl) (Nat.le_of_ble_eq_true rfl) (Nat.le_of_ble_eq_true rfl) dX1_init_7 (fun q1 H hP hD hS => ?_)
  have hP : va_P D vwCl ([(h0, .inr (1, [.long 0, .null, .null, .null]))] ++ [(q1, .inl (g.2.1, 6, .inr (.inl (fun _ => 0))))]) H := hP
  have hD : va_D A ([(h0, .inr (1, [.long 0, .null, .null, .null]))] ++ [(q1, .inl (g.2.1, 6, .inr (.inl (fun _ => 0))))]) := hD
  refine va_put (D := D) (ci := 1) (v := .ref q1) (ty := .array .long) (C := RX1) (T := TX1) (N := 4) hx hb hts zin_X1 tyX1 tyX1_ok nmX1 hown hK hP hD hS 0 rfl rfl 1 (by decide) (hts _ zw_222) (fun _ h9 => h9) rfl (by decide +kernel) rfl rfl (Nat.le_of_ble_eq_true rfl) dX1_init_9 (fun H locs hP hD hS => ?_)
  have hP : va_P D vwCl ([(h0, .inr (1, [.long 0, .ref q1, .null, .null]))] ++ [(q1, .inl (g.2.1, 6, .inr (.inl (fun _ => 0))))]) H := hP
  have hD : va_D A ([(h0, .inr (1, [.long 0, .ref q1, .null, .null]))] ++ [(q1, .inl (g.2.1, 6, .inr (.inl (fun _ => 0))))]) := hD
  refine lv_aload_n hx hb dX1_init_12 rfl (lv_at hl 0 rfl) ?_
  refine lv_bipush (v := (6)) hx hb dX1_init_13 (by decide) ?_
  refine zc_newJ hx hb (hts _ zx_234) hK hP hD hS hA 6 (by decide) (by decide) (Nat.le_of_ble_eq_true rfl) (Nat.le_of_ble_eq_true rfl) (Nat.le_of_ble_eq_true rfl) dX1_init_15 (fun q2 H hP hD hS => ?_)
  have hP : va_P D vwCl (([(h0, .inr (1, [.long 0, .ref q1, .null, .null]))] ++ [(q1, .inl (g.2.1, 6, .inr (.inl (fun _ => 0))))]) ++ [(q2, .inl (g.2.1, 6, .inr (.inl (fun _ => 0))))]) H := hP
  have hD : va_D A (([(h0, .inr (1, [.long 0, .ref q1, .null, .null]))] ++ [(q1, .inl (g.2.1, 6, .inr (.inl (fun _ => 0))))]) ++ [(q2, .inl (g.2.1, 6, .inr (.inl (fun _ => 0))))]) := hD
  refine va_put (D := D) (ci := 1) (v := .ref q2) (ty := .array .long) (C := RX1) (T := TX1) (N := 4) hx hb hts zin_X1 tyX1 tyX1_ok nmX1 hown hK hP hD hS 0 rfl rfl 2 (by decide) (hts _ zw_223) (fun _ h9 => h9) rfl (by decide +kernel) rfl rfl (Nat.le_of_ble_eq_true rfl) dX1_init_17 (fun H locs hP hD hS => ?_)
  have hP : va_P D vwCl (([(h0, .inr (1, [.long 0, .ref q1, .ref q2, .null]))] ++ [(q1, .inl (g.2.1, 6, .inr (.inl (fun _ => 0))))]) ++ [(q2, .inl (g.2.1, 6, .inr (.inl (fun _ => 0))))]) H := hP
  have hD : va_D A (([(h0, .inr (1, [.long 0, .ref q1, .ref q2, .null]))] ++ [(q1, .inl (g.2.1, 6, .inr (.inl (fun _ => 0))))]) ++ [(q2, .inl (g.2.1, 6, .inr (.inl (fun _ => 0))))]) := hD
  refine lv_aload_n hx hb dX1_init_20 rfl (lv_at hl 0 rfl) ?_
  refine lv_bipush (v := (6)) hx hb dX1_init_21 (by decide) ?_
  refine zc_newI hx hb (hts _ zx_97) hK hP hD hS hA 6 (by decide) (by decide) (Nat.le_of_ble_eq_true rfl) (Nat.le_of_ble_eq_true rfl) (Nat.le_of_ble_eq_true rfl) dX1_init_23 (fun q3 H hP hD hS => ?_)
  have hP : va_P D vwCl ((([(h0, .inr (1, [.long 0, .ref q1, .ref q2, .null]))] ++ [(q1, .inl (g.2.1, 6, .inr (.inl (fun _ => 0))))]) ++ [(q2, .inl (g.2.1, 6, .inr (.inl (fun _ => 0))))]) ++ [(q3, .inl (g.1, 6, .inl (fun _ => 0)))]) H := hP
  have hD : va_D A ((([(h0, .inr (1, [.long 0, .ref q1, .ref q2, .null]))] ++ [(q1, .inl (g.2.1, 6, .inr (.inl (fun _ => 0))))]) ++ [(q2, .inl (g.2.1, 6, .inr (.inl (fun _ => 0))))]) ++ [(q3, .inl (g.1, 6, .inl (fun _ => 0)))]) := hD
  refine va_putF (D := D) (ci := 1) (v := .ref q3) (ty := .array .int) (C := RX1) (T := TX1) (N := 4) hx hb hts zin_X1 tyX1 tyX1_ok nmX1 hown hK hP hD hS 0 rfl rfl 3 (by decide) (hts _ zw_224) (fun _ h9 => h9) rfl hin rfl (by decide +kernel) rfl rfl (Nat.le_of_ble_eq_true rfl) dX1_init_25 (fun H locs hP hD hS => ?_)
  have hP : va_P D vwCl ((([(h0, .inr (1, [.long 0, .ref q1, .ref q2, .ref q3]))] ++ [(q1, .inl (g.2.1, 6, .inr (.inl (fun _ => 0))))]) ++ [(q2, .inl (g.2.1, 6, .inr (.inl (fun _ => 0))))]) ++ [(q3, .inl (g.1, 6, .inl (fun _ => 0)))]) H := hP
  have hD : va_D A ((([(h0, .inr (1, [.long 0, .ref q1, .ref q2, .ref q3]))] ++ [(q1, .inl (g.2.1, 6, .inr (.inl (fun _ => 0))))]) ++ [(q2, .inl (g.2.1, 6, .inr (.inl (fun _ => 0))))]) ++ [(q3, .inl (g.1, 6, .inl (fun _ => 0)))]) := hD
  refine W.widen (k := 3) (n := 18) (Nat.le_of_ble_eq_true rfl) (Nat.le_of_ble_eq_true rfl) ?_
  exact hret _ _ _ _ (adX1 h0 q1 q2 q3) rfl (by rw [zwX1]; exact hP) (by rw [zwX1]; exact hD) hS dX1_init_28
def adX2 (h0 : Nat) (q1 : Nat) (q2 : Nat) : Nat → Nat := fun j => if j = 4 then h0 else if j = 46 then q1 else if j = 47 then q2 else 0
def jsX2 : List Nat := [4, 46, 47]
set_option maxRecDepth 100000 in
theorem zwX2 (g : zG) (h0 : Nat) (q1 : Nat) (q2 : Nat) : zWs g 0 (adX2 h0 q1 q2) zS0 jsX2 = (([(h0, .inr (2, [.ref q1, .ref q2, .int 0, .int 0]))] ++ [(q1, .inl (g.1, 4, .inl (fun _ => 0)))]) ++ [(q2, .inl (g.1, 4, .inl (fun _ => 0)))]) := by
  unfold zWs jsX2
  simp only [List.map_cons, List.map_nil]
  rfl
theorem hiX2 : yX2_init.cls ≠ "java/lang/invoke/MethodHandle" ∧ yX2_init.cls ≠ "java/lang/invoke/VarHandle" ∧ (parseMethodDescriptor yX2_init.desc).map (fun d => d.parameters.length) = some 0 := by decide +kernel
abbrev zRcX2 : Room := { frames := 1, cells := 2, slots := 8, locals := 45 }
set_option maxHeartbeats 4000000 in
set_option maxRecDepth 100000 in
theorem kX2_init (l : Launch) (D : va_G) (g : zG) (h0 : Nat) : zCt l D g yX2_init (Cond.code yX2_init cX2_init 1 none :: zws) zRcX2 [.ref h0] [(h0, .inr (2, [.null, .null, .int 0, .int 0]))] (fun ad => ad 4 = h0) (fun ad => zWs g 0 ad zS0 jsX2) := by
  refine z_enter_c (by decide) (Nat.le_of_ble_eq_true rfl) ?_
  intro p e s m below meth c A ls Q C hTb hin hP hD hS hl hret
  obtain ⟨hx, hb, hml, hown, hts, hK, hA⟩ := id C
  have hown : s.vm.findClass RX2 = some m.cls := hown
  have hin : meth.name = "<init>" := hin
  have hl : lv_has ls 1 [(0, .ref h0)] := hl
  refine lv_aload_n hx hb dX2_init_0 rfl (lv_at hl 0 rfl) ?_
  refine W.objInit hx hb hown (hts _ zw_155) (hts _ zw_73) (hts _ zw_74) rfl (by rw [hml]; exact hl.1) rfl dX2_init_1 (Nat.le_of_ble_eq_true rfl) (Nat.le_of_ble_eq_true rfl) ?_
  refine W.eq (g2 := F0 m 4 ls []) rfl ?_
  refine lv_aload_n hx hb dX2_init_4 rfl (lv_at hl 0 rfl) ?_
  refine lv_iconst (v := (4)) hx hb dX2_init_5 (by decide) ?_
  refine zc_newI hx hb (hts _ zx_97) hK hP hD hS hA 4 (by decide) (by decide) (Nat.le_of_ble_eq_true rfl) (Nat.le_of_ble_eq_true rfl) (Nat.le_of_ble_eq_true rfl) dX2_init_6 (fun q1 H hP hD hS => ?_)
  have hP : va_P D vwCl ([(h0, .inr (2, [.null, .null, .int 0, .int 0]))] ++ [(q1, .inl (g.1, 4, .inl (fun _ => 0)))]) H := hP
  have hD : va_D A ([(h0, .inr (2, [.null, .null, .int 0, .int 0]))] ++ [(q1, .inl (g.1, 4, .inl (fun _ => 0)))]) := hD
  refine va_putF (D := D) (ci := 2) (v := .ref q1) (ty := .array .int) (C := RX2) (T := TX2) (N := 4) hx hb hts zin_X2 tyX2 tyX2_ok nmX2 hown hK hP hD hS 0 rfl rfl 0 (by decide) (hts _ zw_156) (fun _ h9 => h9) rfl hin rfl (by decide +kernel) rfl rfl (Nat.le_of_ble_eq_true rfl) dX2_init_8 (fun H locs hP hD hS => ?_)
  have hP : va_P D vwCl ([(h0, .inr (2, [.ref q1, .null, .int 0, .int 0]))] ++ [(q1, .inl (g.1, 4, .inl (fun _ => 0)))]) H := hP
  have hD : va_D A ([(h0, .inr (2, [.ref q1, .null, .int 0, .int 0]))] ++ [(q1, .inl (g.1, 4, .inl (fun _ => 0)))]) := hD
  refine lv_aload_n hx hb dX2_init_11 rfl (lv_at hl 0 rfl) ?_
  refine lv_iconst (v := (4)) hx hb dX2_init_12 (by decide) ?_
  refine zc_newI hx hb (hts _ zx_97) hK hP hD hS hA 4 (by decide) (by decide) (Nat.le_of_ble_eq_true rfl) (Nat.le_of_ble_eq_true rfl) (Nat.le_of_ble_eq_true rfl) dX2_init_13 (fun q2 H hP hD hS => ?_)
  have hP : va_P D vwCl (([(h0, .inr (2, [.ref q1, .null, .int 0, .int 0]))] ++ [(q1, .inl (g.1, 4, .inl (fun _ => 0)))]) ++ [(q2, .inl (g.1, 4, .inl (fun _ => 0)))]) H := hP
  have hD : va_D A (([(h0, .inr (2, [.ref q1, .null, .int 0, .int 0]))] ++ [(q1, .inl (g.1, 4, .inl (fun _ => 0)))]) ++ [(q2, .inl (g.1, 4, .inl (fun _ => 0)))]) := hD
  refine va_putF (D := D) (ci := 2) (v := .ref q2) (ty := .array .int) (C := RX2) (T := TX2) (N := 4) hx hb hts zin_X2 tyX2 tyX2_ok nmX2 hown hK hP hD hS 0 rfl rfl 1 (by decide) (hts _ zw_158) (fun _ h9 => h9) rfl hin rfl (by decide +kernel) rfl rfl (Nat.le_of_ble_eq_true rfl) dX2_init_15 (fun H locs hP hD hS => ?_)
  have hP : va_P D vwCl (([(h0, .inr (2, [.ref q1, .ref q2, .int 0, .int 0]))] ++ [(q1, .inl (g.1, 4, .inl (fun _ => 0)))]) ++ [(q2, .inl (g.1, 4, .inl (fun _ => 0)))]) H := hP
  have hD : va_D A (([(h0, .inr (2, [.ref q1, .ref q2, .int 0, .int 0]))] ++ [(q1, .inl (g.1, 4, .inl (fun _ => 0)))]) ++ [(q2, .inl (g.1, 4, .inl (fun _ => 0)))]) := hD
  refine W.widen (k := 2) (n := 8) (Nat.le_of_ble_eq_true rfl) (Nat.le_of_ble_eq_true rfl) ?_
  exact hret _ _ _ _ (adX2 h0 q1 q2) rfl (by rw [zwX2]; exact hP) (by rw [zwX2]; exact hD) hS dX2_init_18
def adX4 (h0 : Nat) (q1 : Nat) (q2 : Nat) (r1 : Nat → Nat) : Nat → Nat := fun j => if j = 8 then h0 else if j = 72 then q1 else if j = 79 then q2 else r1 (j - 73)
def jsX4 : List Nat := [8, 72, 73, 74, 75, 76, 77, 78, 79]
set_option maxRecDepth 100000 in
theorem zwX4 (g : zG) (h0 : Nat) (q1 : Nat) (q2 : Nat) (r1 : Nat → Nat) : zWs g 0 (adX4 h0 q1 q2 r1) zS0 jsX4 = (([(h0, .inr (4, [.ref q1, .int 0, .long 0, .ref q2]))] ++ ((q1, .inl (g.2.2, 6, .inr (.inr (.inr (.inr (fun i => if i < 6 then some (r1 i) else none)))))) :: (List.range 6).map (fun i => (r1 i, .inl (g.1, 6, .inl (fun _ => 0)))))) ++ [(q2, .inl (g.2.1, 7, .inr (.inl (fun _ => 0))))]) := by
  have e72 : zcell g 0 (adX4 h0 q1 q2 r1) zS0 72 = .inl (g.2.2, 6, .inr (.inr (.inr (.inr (fun i => if i < 6 then some (r1 i) else none))))) := zouterc (by decide) (by decide) (by decide) (fun i hi => by
    unfold adX4
    rw [if_neg (by omega), if_neg (by omega), if_neg (by omega)]
    congr 1
    omega)
  unfold zWs jsX4
  simp only [List.map_cons, List.map_nil]
  rw [e72]
  rfl
theorem hiX4 : yX4_init.cls ≠ "java/lang/invoke/MethodHandle" ∧ yX4_init.cls ≠ "java/lang/invoke/VarHandle" ∧ (parseMethodDescriptor yX4_init.desc).map (fun d => d.parameters.length) = some 0 := by decide +kernel
abbrev zRcX4 : Room := { frames := 1, cells := 8, slots := 49, locals := 45 }
set_option maxHeartbeats 4000000 in
set_option maxRecDepth 100000 in
theorem kX4_init (l : Launch) (D : va_G) (g : zG) (h0 : Nat) : zCt l D g yX4_init (Cond.code yX4_init cX4_init 1 none :: zws) zRcX4 [.ref h0] [(h0, .inr (4, [.null, .int 0, .long 0, .null]))] (fun ad => ad 8 = h0) (fun ad => zWs g 0 ad zS0 jsX4) := by
  refine z_enter_c (by decide) (Nat.le_of_ble_eq_true rfl) ?_
  intro p e s m below meth c A ls Q C hTb hin hP hD hS hl hret
  obtain ⟨hx, hb, hml, hown, hts, hK, hA⟩ := id C
  have hown : s.vm.findClass RX4 = some m.cls := hown
  have hin : meth.name = "<init>" := hin
  have hl : lv_has ls 1 [(0, .ref h0)] := hl
  refine lv_aload_n hx hb dX4_init_0 rfl (lv_at hl 0 rfl) ?_
  refine W.objInit hx hb hown (hts _ zw_240) (hts _ zw_73) (hts _ zw_74) rfl (by rw [hml]; exact hl.1) rfl dX4_init_1 (Nat.le_of_ble_eq_true rfl) (Nat.le_of_ble_eq_true rfl) ?_
  refine W.eq (g2 := F0 m 4 ls []) rfl ?_
  refine lv_aload_n hx hb dX4_init_4 rfl (lv_at hl 0 rfl) ?_
  refine lv_bipush (v := (6)) hx hb dX4_init_5 (by decide) ?_
  refine lv_bipush (v := (6)) hx hb dX4_init_7 (by decide) ?_
  refine zc_mna hx hb hown (hts _ zx_241) hTb.1 (hts _ zx_97) hK hP hD hS hA 6 6 (by decide) (by decide) (by decide) (by decide) (Nat.le_of_ble_eq_true rfl) (Nat.le_of_ble_eq_true rfl) (Nat.le_of_ble_eq_true rfl) (Nat.le_of_ble_eq_true rfl) dX4_init_9 (fun q1 r1 H hP hD hS => ?_)
  have hP : va_P D vwCl ([(h0, .inr (4, [.null, .int 0, .long 0, .null]))] ++ ((q1, .inl (g.2.2, 6, .inr (.inr (.inr (.inr (fun i => if i < 6 then some (r1 i) else none)))))) :: (List.range 6).map (fun i => (r1 i, .inl (g.1, 6, .inl (fun _ => 0)))))) H := hP
  have hD : va_D A ([(h0, .inr (4, [.null, .int 0, .long 0, .null]))] ++ ((q1, .inl (g.2.2, 6, .inr (.inr (.inr (.inr (fun i => if i < 6 then some (r1 i) else none)))))) :: (List.range 6).map (fun i => (r1 i, .inl (g.1, 6, .inl (fun _ => 0)))))) := hD
  refine va_putF (D := D) (ci := 4) (v := .ref q1) (ty := .array (.array .int)) (C := RX4) (T := TX4) (N := 4) hx hb hts zin_X4 tyX4 tyX4_ok nmX4 hown hK hP hD hS 0 rfl rfl 0 (by decide) (hts _ zw_242) (fun _ h9 => h9) rfl hin rfl (by decide +kernel) rfl rfl (Nat.le_of_ble_eq_true rfl) dX4_init_13 (fun H locs hP hD hS => ?_)
  have hP : va_P D vwCl ([(h0, .inr (4, [.ref q1, .int 0, .long 0, .null]))] ++ ((q1, .inl (g.2.2, 6, .inr (.inr (.inr (.inr (fun i => if i < 6 then some (r1 i) else none)))))) :: (List.range 6).map (fun i => (r1 i, .inl (g.1, 6, .inl (fun _ => 0)))))) H := hP
  have hD : va_D A ([(h0, .inr (4, [.ref q1, .int 0, .long 0, .null]))] ++ ((q1, .inl (g.2.2, 6, .inr (.inr (.inr (.inr (fun i => if i < 6 then some (r1 i) else none)))))) :: (List.range 6).map (fun i => (r1 i, .inl (g.1, 6, .inl (fun _ => 0)))))) := hD
  refine lv_aload_n hx hb dX4_init_16 rfl (lv_at hl 0 rfl) ?_
  refine lv_bipush (v := (7)) hx hb dX4_init_17 (by decide) ?_
  refine zc_newJ hx hb (hts _ zx_234) hK hP hD hS hA 7 (by decide) (by decide) (Nat.le_of_ble_eq_true rfl) (Nat.le_of_ble_eq_true rfl) (Nat.le_of_ble_eq_true rfl) dX4_init_19 (fun q2 H hP hD hS => ?_)
  have hP : va_P D vwCl (([(h0, .inr (4, [.ref q1, .int 0, .long 0, .null]))] ++ ((q1, .inl (g.2.2, 6, .inr (.inr (.inr (.inr (fun i => if i < 6 then some (r1 i) else none)))))) :: (List.range 6).map (fun i => (r1 i, .inl (g.1, 6, .inl (fun _ => 0)))))) ++ [(q2, .inl (g.2.1, 7, .inr (.inl (fun _ => 0))))]) H := hP
  have hD : va_D A (([(h0, .inr (4, [.ref q1, .int 0, .long 0, .null]))] ++ ((q1, .inl (g.2.2, 6, .inr (.inr (.inr (.inr (fun i => if i < 6 then some (r1 i) else none)))))) :: (List.range 6).map (fun i => (r1 i, .inl (g.1, 6, .inl (fun _ => 0)))))) ++ [(q2, .inl (g.2.1, 7, .inr (.inl (fun _ => 0))))]) := hD
  refine va_putF (D := D) (ci := 4) (v := .ref q2) (ty := .array .long) (C := RX4) (T := TX4) (N := 4) hx hb hts zin_X4 tyX4 tyX4_ok nmX4 hown hK hP hD hS 0 rfl rfl 3 (by decide) (hts _ zw_248) (fun _ h9 => h9) rfl hin rfl (by decide +kernel) rfl rfl (Nat.le_of_ble_eq_true rfl) dX4_init_21 (fun H locs hP hD hS => ?_)
  have hP : va_P D vwCl (([(h0, .inr (4, [.ref q1, .int 0, .long 0, .ref q2]))] ++ ((q1, .inl (g.2.2, 6, .inr (.inr (.inr (.inr (fun i => if i < 6 then some (r1 i) else none)))))) :: (List.range 6).map (fun i => (r1 i, .inl (g.1, 6, .inl (fun _ => 0)))))) ++ [(q2, .inl (g.2.1, 7, .inr (.inl (fun _ => 0))))]) H := hP
  have hD : va_D A (([(h0, .inr (4, [.ref q1, .int 0, .long 0, .ref q2]))] ++ ((q1, .inl (g.2.2, 6, .inr (.inr (.inr (.inr (fun i => if i < 6 then some (r1 i) else none)))))) :: (List.range 6).map (fun i => (r1 i, .inl (g.1, 6, .inl (fun _ => 0)))))) ++ [(q2, .inl (g.2.1, 7, .inr (.inl (fun _ => 0))))]) := hD
  refine W.widen (k := 8) (n := 49) (Nat.le_of_ble_eq_true rfl) (Nat.le_of_ble_eq_true rfl) ?_
  exact hret _ _ _ _ (adX4 h0 q1 q2 r1) rfl (by rw [zwX4]; exact hP) (by rw [zwX4]; exact hD) hS dX4_init_24
def adX5 (h0 : Nat) (q1 : Nat) (q2 : Nat) (r1 : Nat → Nat) : Nat → Nat := fun j => if j = 2 then h0 else if j = 18 then q1 else if j = 31 then q2 else r1 (j - 19)
def jsX5 : List Nat := [2, 18, 19, 20, 21, 22, 23, 24, 25, 26, 27, 28, 29, 30, 31]
set_option maxRecDepth 100000 in
theorem zwX5 (g : zG) (h0 : Nat) (q1 : Nat) (q2 : Nat) (r1 : Nat → Nat) : zWs g 0 (adX5 h0 q1 q2 r1) zS0 jsX5 = (([(h0, .inr (5, [.ref q1, .int 0, .int 0, .ref q2, .int 0, .int 0, .int 0]))] ++ ((q1, .inl (g.2.2, 12, .inr (.inr (.inr (.inr (fun i => if i < 12 then some (r1 i) else none)))))) :: (List.range 12).map (fun i => (r1 i, .inl (g.1, 6, .inl (fun _ => 0)))))) ++ [(q2, .inl (g.1, 0, .inl (fun _ => 0)))]) := by
  have e18 : zcell g 0 (adX5 h0 q1 q2 r1) zS0 18 = .inl (g.2.2, 12, .inr (.inr (.inr (.inr (fun i => if i < 12 then some (r1 i) else none))))) := zouterc (by decide) (by decide) (by decide) (fun i hi => by
    unfold adX5
    rw [if_neg (by omega), if_neg (by omega), if_neg (by omega)]
    congr 1
    omega)
  unfold zWs jsX5
  simp only [List.map_cons, List.map_nil]
  rw [e18]
  rfl
theorem hiX5 : yX5_init.cls ≠ "java/lang/invoke/MethodHandle" ∧ yX5_init.cls ≠ "java/lang/invoke/VarHandle" ∧ (parseMethodDescriptor yX5_init.desc).map (fun d => d.parameters.length) = some 0 := by decide +kernel
abbrev zRcX5 : Room := { frames := 1, cells := 14, slots := 84, locals := 45 }
set_option maxHeartbeats 4000000 in
set_option maxRecDepth 100000 in
theorem kX5_init (l : Launch) (D : va_G) (g : zG) (h0 : Nat) : zCt l D g yX5_init (Cond.code yX5_init cX5_init 1 none :: zws) zRcX5 [.ref h0] [(h0, .inr (5, [.null, .int 0, .int 0, .null, .int 0, .int 0, .int 0]))] (fun ad => ad 2 = h0) (fun ad => zWs g 0 ad zS0 jsX5) := by
  refine z_enter_c (by decide) (Nat.le_of_ble_eq_true rfl) ?_
  intro p e s m below meth c A ls Q C hTb hin hP hD hS hl hret
  obtain ⟨hx, hb, hml, hown, hts, hK, hA⟩ := id C
  have hown : s.vm.findClass RX5 = some m.cls := hown
  have hin : meth.name = "<init>" := hin
  have hl : lv_has ls 1 [(0, .ref h0)] := hl
  refine lv_aload_n hx hb dX5_init_0 rfl (lv_at hl 0 rfl) ?_
  refine W.objInit hx hb hown (hts _ zw_103) (hts _ zw_73) (hts _ zw_74) rfl (by rw [hml]; exact hl.1) rfl dX5_init_1 (Nat.le_of_ble_eq_true rfl) (Nat.le_of_ble_eq_true rfl) ?_
  refine W.eq (g2 := F0 m 4 ls []) rfl ?_
  refine lv_aload_n hx hb dX5_init_4 rfl (lv_at hl 0 rfl) ?_
  refine lv_bipush (v := (12)) hx hb dX5_init_5 (by decide) ?_
  refine lv_bipush (v := (6)) hx hb dX5_init_7 (by decide) ?_
  refine zc_mna hx hb hown (hts _ zx_104) hTb.1 (hts _ zx_97) hK hP hD hS hA 12 6 (by decide) (by decide) (by decide) (by decide) (Nat.le_of_ble_eq_true rfl) (Nat.le_of_ble_eq_true rfl) (Nat.le_of_ble_eq_true rfl) (Nat.le_of_ble_eq_true rfl) dX5_init_9 (fun q1 r1 H hP hD hS => ?_)
  have hP : va_P D vwCl ([(h0, .inr (5, [.null, .int 0, .int 0, .null, .int 0, .int 0, .int 0]))] ++ ((q1, .inl (g.2.2, 12, .inr (.inr (.inr (.inr (fun i => if i < 12 then some (r1 i) else none)))))) :: (List.range 12).map (fun i => (r1 i, .inl (g.1, 6, .inl (fun _ => 0)))))) H := hP
  have hD : va_D A ([(h0, .inr (5, [.null, .int 0, .int 0, .null, .int 0, .int 0, .int 0]))] ++ ((q1, .inl (g.2.2, 12, .inr (.inr (.inr (.inr (fun i => if i < 12 then some (r1 i) else none)))))) :: (List.range 12).map (fun i => (r1 i, .inl (g.1, 6, .inl (fun _ => 0)))))) := hD
  refine va_putF (D := D) (ci := 5) (v := .ref q1) (ty := .array (.array .int)) (C := RX5) (T := TX5) (N := 7) hx hb hts zin_X5 tyX5 tyX5_ok nmX5 hown hK hP hD hS 0 rfl rfl 0 (by decide) (hts _ zw_105) (fun _ h9 => h9) rfl hin rfl (by decide +kernel) rfl rfl (Nat.le_of_ble_eq_true rfl) dX5_init_13 (fun H locs hP hD hS => ?_)
  have hP : va_P D vwCl ([(h0, .inr (5, [.ref q1, .int 0, .int 0, .null, .int 0, .int 0, .int 0]))] ++ ((q1, .inl (g.2.2, 12, .inr (.inr (.inr (.inr (fun i => if i < 12 then some (r1 i) else none)))))) :: (List.range 12).map (fun i => (r1 i, .inl (g.1, 6, .inl (fun _ => 0)))))) H := hP
  have hD : va_D A ([(h0, .inr (5, [.ref q1, .int 0, .int 0, .null, .int 0, .int 0, .int 0]))] ++ ((q1, .inl (g.2.2, 12, .inr (.inr (.inr (.inr (fun i => if i < 12 then some (r1 i) else none)))))) :: (List.range 12).map (fun i => (r1 i, .inl (g.1, 6, .inl (fun _ => 0)))))) := hD
  refine lv_aload_n hx hb dX5_init_16 rfl (lv_at hl 0 rfl) ?_
  refine lv_iconst (v := (0)) hx hb dX5_init_17 (by decide) ?_
  refine zc_newI hx hb (hts _ zx_97) hK hP hD hS hA 0 (by decide) (by decide) (Nat.le_of_ble_eq_true rfl) (Nat.le_of_ble_eq_true rfl) (Nat.le_of_ble_eq_true rfl) dX5_init_18 (fun q2 H hP hD hS => ?_)
  have hP : va_P D vwCl (([(h0, .inr (5, [.ref q1, .int 0, .int 0, .null, .int 0, .int 0, .int 0]))] ++ ((q1, .inl (g.2.2, 12, .inr (.inr (.inr (.inr (fun i => if i < 12 then some (r1 i) else none)))))) :: (List.range 12).map (fun i => (r1 i, .inl (g.1, 6, .inl (fun _ => 0)))))) ++ [(q2, .inl (g.1, 0, .inl (fun _ => 0)))]) H := hP
  have hD : va_D A (([(h0, .inr (5, [.ref q1, .int 0, .int 0, .null, .int 0, .int 0, .int 0]))] ++ ((q1, .inl (g.2.2, 12, .inr (.inr (.inr (.inr (fun i => if i < 12 then some (r1 i) else none)))))) :: (List.range 12).map (fun i => (r1 i, .inl (g.1, 6, .inl (fun _ => 0)))))) ++ [(q2, .inl (g.1, 0, .inl (fun _ => 0)))]) := hD
  refine va_put (D := D) (ci := 5) (v := .ref q2) (ty := .array .int) (C := RX5) (T := TX5) (N := 7) hx hb hts zin_X5 tyX5 tyX5_ok nmX5 hown hK hP hD hS 0 rfl rfl 3 (by decide) (hts _ zw_111) (fun _ h9 => h9) rfl (by decide +kernel) rfl rfl (Nat.le_of_ble_eq_true rfl) dX5_init_20 (fun H locs hP hD hS => ?_)
  have hP : va_P D vwCl (([(h0, .inr (5, [.ref q1, .int 0, .int 0, .ref q2, .int 0, .int 0, .int 0]))] ++ ((q1, .inl (g.2.2, 12, .inr (.inr (.inr (.inr (fun i => if i < 12 then some (r1 i) else none)))))) :: (List.range 12).map (fun i => (r1 i, .inl (g.1, 6, .inl (fun _ => 0)))))) ++ [(q2, .inl (g.1, 0, .inl (fun _ => 0)))]) H := hP
  have hD : va_D A (([(h0, .inr (5, [.ref q1, .int 0, .int 0, .ref q2, .int 0, .int 0, .int 0]))] ++ ((q1, .inl (g.2.2, 12, .inr (.inr (.inr (.inr (fun i => if i < 12 then some (r1 i) else none)))))) :: (List.range 12).map (fun i => (r1 i, .inl (g.1, 6, .inl (fun _ => 0)))))) ++ [(q2, .inl (g.1, 0, .inl (fun _ => 0)))]) := hD
  refine W.widen (k := 14) (n := 84) (Nat.le_of_ble_eq_true rfl) (Nat.le_of_ble_eq_true rfl) ?_
  exact hret _ _ _ _ (adX5 h0 q1 q2 r1) rfl (by rw [zwX5]; exact hP) (by rw [zwX5]; exact hD) hS dX5_init_23
def adX6 (h0 : Nat) (q1 : Nat) (q2 : Nat) (q3 : Nat) (r1 : Nat → Nat) : Nat → Nat := fun j => if j = 1 then h0 else if j = 11 then q1 else if j = 16 then q2 else if j = 17 then q3 else r1 (j - 12)
def jsX6 : List Nat := [1, 11, 12, 13, 14, 15, 16, 17]
set_option maxRecDepth 100000 in
theorem zwX6 (g : zG) (h0 : Nat) (q1 : Nat) (q2 : Nat) (q3 : Nat) (r1 : Nat → Nat) : zWs g 0 (adX6 h0 q1 q2 q3 r1) zS0 jsX6 = ((([(h0, .inr (6, [.ref q1, .ref q2, .ref q3]))] ++ ((q1, .inl (g.2.2, 4, .inr (.inr (.inr (.inr (fun i => if i < 4 then some (r1 i) else none)))))) :: (List.range 4).map (fun i => (r1 i, .inl (g.1, 120, .inl (fun _ => 0)))))) ++ [(q2, .inl (g.1, 4, .inl (fun _ => 0)))]) ++ [(q3, .inl (g.1, 4, .inl (fun i => if i < 4 then -1 else 0)))]) := by
  have e11 : zcell g 0 (adX6 h0 q1 q2 q3 r1) zS0 11 = .inl (g.2.2, 4, .inr (.inr (.inr (.inr (fun i => if i < 4 then some (r1 i) else none))))) := zouterc (by decide) (by decide) (by decide) (fun i hi => by
    unfold adX6
    rw [if_neg (by omega), if_neg (by omega), if_neg (by omega), if_neg (by omega)]
    congr 1
    omega)
  unfold zWs jsX6
  simp only [List.map_cons, List.map_nil]
  rw [e11]
  rfl
theorem hiX6 : yX6_init.cls ≠ "java/lang/invoke/MethodHandle" ∧ yX6_init.cls ≠ "java/lang/invoke/VarHandle" ∧ (parseMethodDescriptor yX6_init.desc).map (fun d => d.parameters.length) = some 0 := by decide +kernel
abbrev zRcX6 : Room := { frames := 2, cells := 7, slots := 492, locals := 90 }
set_option maxHeartbeats 4000000 in
set_option maxRecDepth 100000 in
theorem kX6_init (l : Launch) (D : va_G) (g : zG) (h0 : Nat) : zCt l D g yX6_init (Cond.code yX6_init cX6_init 1 none :: zws) zRcX6 [.ref h0] [(h0, .inr (6, [.null, .null, .null]))] (fun ad => ad 1 = h0) (fun ad => zWs g 0 ad zS0 jsX6) := by
  refine z_enter_c (by decide) (Nat.le_of_ble_eq_true rfl) ?_
  intro p e s m below meth c A ls Q C hTb hin hP hD hS hl hret
  obtain ⟨hx, hb, hml, hown, hts, hK, hA⟩ := id C
  have hown : s.vm.findClass RX6 = some m.cls := hown
  have hin : meth.name = "<init>" := hin
  have hl : lv_has ls 1 [(0, .ref h0)] := hl
  refine lv_aload_n hx hb dX6_init_0 rfl (lv_at hl 0 rfl) ?_
  refine W.objInit hx hb hown (hts _ zw_80) (hts _ zw_73) (hts _ zw_74) rfl (by rw [hml]; exact hl.1) rfl dX6_init_1 (Nat.le_of_ble_eq_true rfl) (Nat.le_of_ble_eq_true rfl) ?_
  refine W.eq (g2 := F0 m 4 ls []) rfl ?_
  refine lv_aload_n hx hb dX6_init_4 rfl (lv_at hl 0 rfl) ?_
  refine lv_iconst (v := (4)) hx hb dX6_init_5 (by decide) ?_
  refine lv_bipush (v := (120)) hx hb dX6_init_6 (by decide) ?_
  refine zc_mna hx hb hown (hts _ zx_81) hTb.1 (hts _ zx_97) hK hP hD hS hA 4 120 (by decide) (by decide) (by decide) (by decide) (Nat.le_of_ble_eq_true rfl) (Nat.le_of_ble_eq_true rfl) (Nat.le_of_ble_eq_true rfl) (Nat.le_of_ble_eq_true rfl) dX6_init_8 (fun q1 r1 H hP hD hS => ?_)
  have hP : va_P D vwCl ([(h0, .inr (6, [.null, .null, .null]))] ++ ((q1, .inl (g.2.2, 4, .inr (.inr (.inr (.inr (fun i => if i < 4 then some (r1 i) else none)))))) :: (List.range 4).map (fun i => (r1 i, .inl (g.1, 120, .inl (fun _ => 0)))))) H := hP
  have hD : va_D A ([(h0, .inr (6, [.null, .null, .null]))] ++ ((q1, .inl (g.2.2, 4, .inr (.inr (.inr (.inr (fun i => if i < 4 then some (r1 i) else none)))))) :: (List.range 4).map (fun i => (r1 i, .inl (g.1, 120, .inl (fun _ => 0)))))) := hD
  refine va_putF (D := D) (ci := 6) (v := .ref q1) (ty := .array (.array .int)) (C := RX6) (T := TX6) (N := 3) hx hb hts zin_X6 tyX6 tyX6_ok nmX6 hown hK hP hD hS 0 rfl rfl 0 (by decide) (hts _ zw_86) (fun _ h9 => h9) rfl hin rfl (by decide +kernel) rfl rfl (Nat.le_of_ble_eq_true rfl) dX6_init_12 (fun H locs hP hD hS => ?_)
  have hP : va_P D vwCl ([(h0, .inr (6, [.ref q1, .null, .null]))] ++ ((q1, .inl (g.2.2, 4, .inr (.inr (.inr (.inr (fun i => if i < 4 then some (r1 i) else none)))))) :: (List.range 4).map (fun i => (r1 i, .inl (g.1, 120, .inl (fun _ => 0)))))) H := hP
  have hD : va_D A ([(h0, .inr (6, [.ref q1, .null, .null]))] ++ ((q1, .inl (g.2.2, 4, .inr (.inr (.inr (.inr (fun i => if i < 4 then some (r1 i) else none)))))) :: (List.range 4).map (fun i => (r1 i, .inl (g.1, 120, .inl (fun _ => 0)))))) := hD
  refine lv_aload_n hx hb dX6_init_15 rfl (lv_at hl 0 rfl) ?_
  refine lv_iconst (v := (4)) hx hb dX6_init_16 (by decide) ?_
  refine zc_newI hx hb (hts _ zx_97) hK hP hD hS hA 4 (by decide) (by decide) (Nat.le_of_ble_eq_true rfl) (Nat.le_of_ble_eq_true rfl) (Nat.le_of_ble_eq_true rfl) dX6_init_17 (fun q2 H hP hD hS => ?_)
  have hP : va_P D vwCl (([(h0, .inr (6, [.ref q1, .null, .null]))] ++ ((q1, .inl (g.2.2, 4, .inr (.inr (.inr (.inr (fun i => if i < 4 then some (r1 i) else none)))))) :: (List.range 4).map (fun i => (r1 i, .inl (g.1, 120, .inl (fun _ => 0)))))) ++ [(q2, .inl (g.1, 4, .inl (fun _ => 0)))]) H := hP
  have hD : va_D A (([(h0, .inr (6, [.ref q1, .null, .null]))] ++ ((q1, .inl (g.2.2, 4, .inr (.inr (.inr (.inr (fun i => if i < 4 then some (r1 i) else none)))))) :: (List.range 4).map (fun i => (r1 i, .inl (g.1, 120, .inl (fun _ => 0)))))) ++ [(q2, .inl (g.1, 4, .inl (fun _ => 0)))]) := hD
  refine va_putF (D := D) (ci := 6) (v := .ref q2) (ty := .array .int) (C := RX6) (T := TX6) (N := 3) hx hb hts zin_X6 tyX6 tyX6_ok nmX6 hown hK hP hD hS 0 rfl rfl 1 (by decide) (hts _ zw_88) (fun _ h9 => h9) rfl hin rfl (by decide +kernel) rfl rfl (Nat.le_of_ble_eq_true rfl) dX6_init_19 (fun H locs hP hD hS => ?_)
  have hP : va_P D vwCl (([(h0, .inr (6, [.ref q1, .ref q2, .null]))] ++ ((q1, .inl (g.2.2, 4, .inr (.inr (.inr (.inr (fun i => if i < 4 then some (r1 i) else none)))))) :: (List.range 4).map (fun i => (r1 i, .inl (g.1, 120, .inl (fun _ => 0)))))) ++ [(q2, .inl (g.1, 4, .inl (fun _ => 0)))]) H := hP
  have hD : va_D A (([(h0, .inr (6, [.ref q1, .ref q2, .null]))] ++ ((q1, .inl (g.2.2, 4, .inr (.inr (.inr (.inr (fun i => if i < 4 then some (r1 i) else none)))))) :: (List.range 4).map (fun i => (r1 i, .inl (g.1, 120, .inl (fun _ => 0)))))) ++ [(q2, .inl (g.1, 4, .inl (fun _ => 0)))]) := hD
  refine lv_aload_n hx hb dX6_init_22 rfl (lv_at hl 0 rfl) ?_
  refine lv_iconst (v := (4)) hx hb dX6_init_23 (by decide) ?_
  refine zc_newI hx hb (hts _ zx_97) hK hP hD hS hA 4 (by decide) (by decide) (Nat.le_of_ble_eq_true rfl) (Nat.le_of_ble_eq_true rfl) (Nat.le_of_ble_eq_true rfl) dX6_init_24 (fun q3 H hP hD hS => ?_)
  have hP : va_P D vwCl ((([(h0, .inr (6, [.ref q1, .ref q2, .null]))] ++ ((q1, .inl (g.2.2, 4, .inr (.inr (.inr (.inr (fun i => if i < 4 then some (r1 i) else none)))))) :: (List.range 4).map (fun i => (r1 i, .inl (g.1, 120, .inl (fun _ => 0)))))) ++ [(q2, .inl (g.1, 4, .inl (fun _ => 0)))]) ++ [(q3, .inl (g.1, 4, .inl (fun _ => 0)))]) H := hP
  have hD : va_D A ((([(h0, .inr (6, [.ref q1, .ref q2, .null]))] ++ ((q1, .inl (g.2.2, 4, .inr (.inr (.inr (.inr (fun i => if i < 4 then some (r1 i) else none)))))) :: (List.range 4).map (fun i => (r1 i, .inl (g.1, 120, .inl (fun _ => 0)))))) ++ [(q2, .inl (g.1, 4, .inl (fun _ => 0)))]) ++ [(q3, .inl (g.1, 4, .inl (fun _ => 0)))]) := hD
  refine va_putF (D := D) (ci := 6) (v := .ref q3) (ty := .array .int) (C := RX6) (T := TX6) (N := 3) hx hb hts zin_X6 tyX6 tyX6_ok nmX6 hown hK hP hD hS 0 rfl rfl 2 (by decide) (hts _ zw_89) (fun _ h9 => h9) rfl hin rfl (by decide +kernel) rfl rfl (Nat.le_of_ble_eq_true rfl) dX6_init_26 (fun H locs hP hD hS => ?_)
  have hP : va_P D vwCl ((([(h0, .inr (6, [.ref q1, .ref q2, .ref q3]))] ++ ((q1, .inl (g.2.2, 4, .inr (.inr (.inr (.inr (fun i => if i < 4 then some (r1 i) else none)))))) :: (List.range 4).map (fun i => (r1 i, .inl (g.1, 120, .inl (fun _ => 0)))))) ++ [(q2, .inl (g.1, 4, .inl (fun _ => 0)))]) ++ [(q3, .inl (g.1, 4, .inl (fun _ => 0)))]) H := hP
  have hD : va_D A ((([(h0, .inr (6, [.ref q1, .ref q2, .ref q3]))] ++ ((q1, .inl (g.2.2, 4, .inr (.inr (.inr (.inr (fun i => if i < 4 then some (r1 i) else none)))))) :: (List.range 4).map (fun i => (r1 i, .inl (g.1, 120, .inl (fun _ => 0)))))) ++ [(q2, .inl (g.1, 4, .inl (fun _ => 0)))]) ++ [(q3, .inl (g.1, 4, .inl (fun _ => 0)))]) := hD
  refine lv_aload_n hx hb dX6_init_29 rfl (lv_at hl 0 rfl) ?_
  refine va_get (D := D) (ci := 6) (v := .ref q3) (C := RX6) (T := TX6) (N := 3) hx hb hts zin_X6 hown hK hP 0 rfl rfl 2 (by decide) (hts _ zw_89) (fun _ h9 => h9) rfl dX6_init_30 ?_
  refine lv_iconst (v := (-1)) hx hb dX6_init_33 (by decide) ?_
  have hPc := hP.sub (ws' := [(q3, .inl (g.1, 4, .inl (fun _ => 0)))]) [7] rfl
  have hDc := hD.sub (ws' := [(q3, .inl (g.1, 4, .inl (fun _ => 0)))]) [7] (by decide) rfl
  have hFc := va_free (wc := [(q3, .inl (g.1, 4, .inl (fun _ => 0)))]) hD hS hA [7] rfl
  refine va_callv (va_runS (As := [.ref q3, .int (-1)]) (rest := []) ⟨hx, hb, hml, hown, hts⟩ (kfill0 l D g q3 (fun _ => 0) (-1) H.size) (zcwS 2 hts zgoodIn zw_83 zw_84 zw_54 zw_85 rfl rfl hJ7_fill_53178 ⟨Nat.le_of_ble_eq_true rfl, Nat.le_of_ble_eq_true rfl⟩) ⟨zCpre_blind, fun U hU hW => ⟨rfl, by rw [hU], by rw [hU]; exact hPc, va_K.moved hW.alike hK, hDc.weaken (fun _ _ _ _ => trivial), hTb.warm hW⟩⟩ rfl rfl hl.1 rfl (lv_room (Nat.le_of_ble_eq_true rfl)) dX6_init_34 ⟨Nat.le_of_ble_eq_true rfl, Nat.le_of_ble_eq_true rfl⟩) hS (fun q _ h => hFc q h) hFc (fun u t H1 locs ht hvm hw hB hz1 hk1 hS => ?_)
  obtain ⟨hP1, hD1⟩ := hB
  rw [ht] at hP1
  obtain ⟨hP, hD⟩ := va_join (wr := [(h0, .inr (6, [.ref q1, .ref q2, .ref q3])), (q1, .inl (g.2.2, 4, .inr (.inr (.inr (.inr (fun i => if i < 4 then some (r1 i) else none)))))), (r1 0, .inl (g.1, 120, .inl (fun _ => 0))), (r1 1, .inl (g.1, 120, .inl (fun _ => 0))), (r1 2, .inl (g.1, 120, .inl (fun _ => 0))), (r1 3, .inl (g.1, 120, .inl (fun _ => 0))), (q2, .inl (g.1, 4, .inl (fun _ => 0)))]) (w1 := [(q3, .inl (g.1, 4, .inl (fun i => if i < 4 then -1 else 0)))]) hP hD [7] [0, 1, 2, 3, 4, 5, 6] rfl rfl (by decide) (by decide) hk1 hFc hP1 hD1
  generalize H1 = H at hP hS ⊢
  have hP : va_P D vwCl ((([(h0, .inr (6, [.ref q1, .ref q2, .ref q3]))] ++ ((q1, .inl (g.2.2, 4, .inr (.inr (.inr (.inr (fun i => if i < 4 then some (r1 i) else none)))))) :: (List.range 4).map (fun i => (r1 i, .inl (g.1, 120, .inl (fun _ => 0)))))) ++ [(q2, .inl (g.1, 4, .inl (fun _ => 0)))]) ++ [(q3, .inl (g.1, 4, .inl (fun i => if i < 4 then -1 else 0)))]) H := hP
  have hD : va_D A ((([(h0, .inr (6, [.ref q1, .ref q2, .ref q3]))] ++ ((q1, .inl (g.2.2, 4, .inr (.inr (.inr (.inr (fun i => if i < 4 then some (r1 i) else none)))))) :: (List.range 4).map (fun i => (r1 i, .inl (g.1, 120, .inl (fun _ => 0)))))) ++ [(q2, .inl (g.1, 4, .inl (fun _ => 0)))]) ++ [(q3, .inl (g.1, 4, .inl (fun i => if i < 4 then -1 else 0)))]) := hD
  refine W.widen (k := 7) (n := 492) (Nat.le_of_ble_eq_true rfl) (Nat.le_of_ble_eq_true rfl) ?_
  exact hret _ _ _ _ (adX6 h0 q1 q2 q3 r1) rfl (by rw [zwX6]; exact hP) (by rw [zwX6]; exact hD) hS dX6_init_37
def adX7 (h0 : Nat) (q1 : Nat) (q2 : Nat) : Nat → Nat := fun j => if j = 9 then h0 else if j = 80 then q1 else if j = 81 then q2 else 0
def jsX7 : List Nat := [9, 80, 81]
set_option maxRecDepth 100000 in
theorem zwX7 (g : zG) (h0 : Nat) (q1 : Nat) (q2 : Nat) : zWs g 0 (adX7 h0 q1 q2) zS0 jsX7 = (([(h0, .inr (7, [.ref q1, .ref q2, .int (-1), .long 0]))] ++ [(q1, .inl (g.2.1, 200, .inr (.inl (fun _ => 0))))]) ++ [(q2, .inl (g.2.1, 200, .inr (.inl (fun _ => 0))))]) := by
  unfold zWs jsX7
  simp only [List.map_cons, List.map_nil]
  rfl
theorem hiX7 : yX7_init.cls ≠ "java/lang/invoke/MethodHandle" ∧ yX7_init.cls ≠ "java/lang/invoke/VarHandle" ∧ (parseMethodDescriptor yX7_init.desc).map (fun d => d.parameters.length) = some 0 := by decide +kernel
abbrev zRcX7 : Room := { frames := 1, cells := 2, slots := 400, locals := 45 }
set_option maxHeartbeats 4000000 in
set_option maxRecDepth 100000 in
theorem kX7_init (l : Launch) (D : va_G) (g : zG) (h0 : Nat) : zCt l D g yX7_init (Cond.code yX7_init cX7_init 1 none :: zws) zRcX7 [.ref h0] [(h0, .inr (7, [.null, .null, .int 0, .long 0]))] (fun ad => ad 9 = h0) (fun ad => zWs g 0 ad zS0 jsX7) := by
  refine z_enter_c (by decide) (Nat.le_of_ble_eq_true rfl) ?_
  intro p e s m below meth c A ls Q C hTb hin hP hD hS hl hret
  obtain ⟨hx, hb, hml, hown, hts, hK, hA⟩ := id C
  have hown : s.vm.findClass RX7 = some m.cls := hown
  have hin : meth.name = "<init>" := hin
  have hl : lv_has ls 1 [(0, .ref h0)] := hl
  refine lv_aload_n hx hb dX7_init_0 rfl (lv_at hl 0 rfl) ?_
  refine W.objInit hx hb hown (hts _ zw_263) (hts _ zw_73) (hts _ zw_74) rfl (by rw [hml]; exact hl.1) rfl dX7_init_1 (Nat.le_of_ble_eq_true rfl) (Nat.le_of_ble_eq_true rfl) ?_
  refine W.eq (g2 := F0 m 4 ls []) rfl ?_
  refine lv_aload_n hx hb dX7_init_4 rfl (lv_at hl 0 rfl) ?_
  refine lv_sipush (v := (200)) hx hb dX7_init_5 (by decide) ?_
  refine zc_newJ hx hb (hts _ zx_234) hK hP hD hS hA 200 (by decide) (by decide) (Nat.le_of_ble_eq_true rfl) (Nat.le_of_ble_eq_true rfl) (Nat.le_of_ble_eq_true rfl) dX7_init_8 (fun q1 H hP hD hS => ?_)
  have hP : va_P D vwCl ([(h0, .inr (7, [.null, .null, .int 0, .long 0]))] ++ [(q1, .inl (g.2.1, 200, .inr (.inl (fun _ => 0))))]) H := hP
  have hD : va_D A ([(h0, .inr (7, [.null, .null, .int 0, .long 0]))] ++ [(q1, .inl (g.2.1, 200, .inr (.inl (fun _ => 0))))]) := hD
  refine va_put (D := D) (ci := 7) (v := .ref q1) (ty := .array .long) (C := RX7) (T := TX7) (N := 4) hx hb hts zin_X7 tyX7 tyX7_ok nmX7 hown hK hP hD hS 0 rfl rfl 0 (by decide) (hts _ zw_264) (fun _ h9 => h9) rfl (by decide +kernel) rfl rfl (Nat.le_of_ble_eq_true rfl) dX7_init_10 (fun H locs hP hD hS => ?_)
  have hP : va_P D vwCl ([(h0, .inr (7, [.ref q1, .null, .int 0, .long 0]))] ++ [(q1, .inl (g.2.1, 200, .inr (.inl (fun _ => 0))))]) H := hP
  have hD : va_D A ([(h0, .inr (7, [.ref q1, .null, .int 0, .long 0]))] ++ [(q1, .inl (g.2.1, 200, .inr (.inl (fun _ => 0))))]) := hD
  refine lv_aload_n hx hb dX7_init_13 rfl (lv_at hl 0 rfl) ?_
  refine lv_sipush (v := (200)) hx hb dX7_init_14 (by decide) ?_
  refine zc_newJ hx hb (hts _ zx_234) hK hP hD hS hA 200 (by decide) (by decide) (Nat.le_of_ble_eq_true rfl) (Nat.le_of_ble_eq_true rfl) (Nat.le_of_ble_eq_true rfl) dX7_init_17 (fun q2 H hP hD hS => ?_)
  have hP : va_P D vwCl (([(h0, .inr (7, [.ref q1, .null, .int 0, .long 0]))] ++ [(q1, .inl (g.2.1, 200, .inr (.inl (fun _ => 0))))]) ++ [(q2, .inl (g.2.1, 200, .inr (.inl (fun _ => 0))))]) H := hP
  have hD : va_D A (([(h0, .inr (7, [.ref q1, .null, .int 0, .long 0]))] ++ [(q1, .inl (g.2.1, 200, .inr (.inl (fun _ => 0))))]) ++ [(q2, .inl (g.2.1, 200, .inr (.inl (fun _ => 0))))]) := hD
  refine va_put (D := D) (ci := 7) (v := .ref q2) (ty := .array .long) (C := RX7) (T := TX7) (N := 4) hx hb hts zin_X7 tyX7 tyX7_ok nmX7 hown hK hP hD hS 0 rfl rfl 1 (by decide) (hts _ zw_265) (fun _ h9 => h9) rfl (by decide +kernel) rfl rfl (Nat.le_of_ble_eq_true rfl) dX7_init_19 (fun H locs hP hD hS => ?_)
  have hP : va_P D vwCl (([(h0, .inr (7, [.ref q1, .ref q2, .int 0, .long 0]))] ++ [(q1, .inl (g.2.1, 200, .inr (.inl (fun _ => 0))))]) ++ [(q2, .inl (g.2.1, 200, .inr (.inl (fun _ => 0))))]) H := hP
  have hD : va_D A (([(h0, .inr (7, [.ref q1, .ref q2, .int 0, .long 0]))] ++ [(q1, .inl (g.2.1, 200, .inr (.inl (fun _ => 0))))]) ++ [(q2, .inl (g.2.1, 200, .inr (.inl (fun _ => 0))))]) := hD
  refine lv_aload_n hx hb dX7_init_22 rfl (lv_at hl 0 rfl) ?_
  refine lv_iconst (v := (-1)) hx hb dX7_init_23 (by decide) ?_
  refine va_put (D := D) (ci := 7) (v := .int (-1)) (ty := .int) (C := RX7) (T := TX7) (N := 4) hx hb hts zin_X7 tyX7 tyX7_ok nmX7 hown hK hP hD hS 0 rfl rfl 2 (by decide) (hts _ zw_266) (fun _ h9 => h9) rfl (by decide +kernel) rfl rfl (Nat.le_of_ble_eq_true rfl) dX7_init_24 (fun H locs hP hD hS => ?_)
  have hP : va_P D vwCl (([(h0, .inr (7, [.ref q1, .ref q2, .int (-1), .long 0]))] ++ [(q1, .inl (g.2.1, 200, .inr (.inl (fun _ => 0))))]) ++ [(q2, .inl (g.2.1, 200, .inr (.inl (fun _ => 0))))]) H := hP
  have hD : va_D A (([(h0, .inr (7, [.ref q1, .ref q2, .int (-1), .long 0]))] ++ [(q1, .inl (g.2.1, 200, .inr (.inl (fun _ => 0))))]) ++ [(q2, .inl (g.2.1, 200, .inr (.inl (fun _ => 0))))]) := hD
  refine W.widen (k := 2) (n := 400) (Nat.le_of_ble_eq_true rfl) (Nat.le_of_ble_eq_true rfl) ?_
  exact hret _ _ _ _ (adX7 h0 q1 q2) rfl (by rw [zwX7]; exact hP) (by rw [zwX7]; exact hD) hS dX7_init_27
def adX8 (h0 : Nat) (q1 : Nat) (q2 : Nat) (r1 : Nat → Nat) : Nat → Nat := fun j => if j = 3 then h0 else if j = 32 then q1 else if j = 45 then q2 else r1 (j - 33)
def jsX8 : List Nat := [3, 32, 33, 34, 35, 36, 37, 38, 39, 40, 41, 42, 43, 44, 45]
set_option maxRecDepth 100000 in
theorem zwX8 (g : zG) (h0 : Nat) (q1 : Nat) (q2 : Nat) (r1 : Nat → Nat) : zWs g 0 (adX8 h0 q1 q2 r1) zS0 jsX8 = (([(h0, .inr (8, [.int 0, .ref q1, .ref q2]))] ++ ((q1, .inl (g.2.2, 12, .inr (.inr (.inr (.inr (fun i => if i < 12 then some (r1 i) else none)))))) :: (List.range 12).map (fun i => (r1 i, .inl (g.1, 7, .inl (fun _ => 0)))))) ++ [(q2, .inl (g.1, 12, .inl (fun _ => 0)))]) := by
  have e32 : zcell g 0 (adX8 h0 q1 q2 r1) zS0 32 = .inl (g.2.2, 12, .inr (.inr (.inr (.inr (fun i => if i < 12 then some (r1 i) else none))))) := zouterc (by decide) (by decide) (by decide) (fun i hi => by
    unfold adX8
    rw [if_neg (by omega), if_neg (by omega), if_neg (by omega)]
    congr 1
    omega)
  unfold zWs jsX8
  simp only [List.map_cons, List.map_nil]
  rw [e32]
  rfl
theorem hiX8 : yX8_init.cls ≠ "java/lang/invoke/MethodHandle" ∧ yX8_init.cls ≠ "java/lang/invoke/VarHandle" ∧ (parseMethodDescriptor yX8_init.desc).map (fun d => d.parameters.length) = some 0 := by decide +kernel
abbrev zRcX8 : Room := { frames := 1, cells := 14, slots := 108, locals := 45 }
set_option maxHeartbeats 4000000 in
set_option maxRecDepth 100000 in
theorem kX8_init (l : Launch) (D : va_G) (g : zG) (h0 : Nat) : zCt l D g yX8_init (Cond.code yX8_init cX8_init 1 none :: zws) zRcX8 [.ref h0] [(h0, .inr (8, [.int 0, .null, .null]))] (fun ad => ad 3 = h0) (fun ad => zWs g 0 ad zS0 jsX8) := by
  refine z_enter_c (by decide) (Nat.le_of_ble_eq_true rfl) ?_
  intro p e s m below meth c A ls Q C hTb hin hP hD hS hl hret
  obtain ⟨hx, hb, hml, hown, hts, hK, hA⟩ := id C
  have hown : s.vm.findClass RX8 = some m.cls := hown
  have hin : meth.name = "<init>" := hin
  have hl : lv_has ls 1 [(0, .ref h0)] := hl
  refine lv_aload_n hx hb dX8_init_0 rfl (lv_at hl 0 rfl) ?_
  refine W.objInit hx hb hown (hts _ zw_135) (hts _ zw_73) (hts _ zw_74) rfl (by rw [hml]; exact hl.1) rfl dX8_init_1 (Nat.le_of_ble_eq_true rfl) (Nat.le_of_ble_eq_true rfl) ?_
  refine W.eq (g2 := F0 m 4 ls []) rfl ?_
  refine lv_aload_n hx hb dX8_init_4 rfl (lv_at hl 0 rfl) ?_
  refine lv_bipush (v := (12)) hx hb dX8_init_5 (by decide) ?_
  refine lv_bipush (v := (7)) hx hb dX8_init_7 (by decide) ?_
  refine zc_mna hx hb hown (hts _ zx_136) hTb.1 (hts _ zx_97) hK hP hD hS hA 12 7 (by decide) (by decide) (by decide) (by decide) (Nat.le_of_ble_eq_true rfl) (Nat.le_of_ble_eq_true rfl) (Nat.le_of_ble_eq_true rfl) (Nat.le_of_ble_eq_true rfl) dX8_init_9 (fun q1 r1 H hP hD hS => ?_)
  have hP : va_P D vwCl ([(h0, .inr (8, [.int 0, .null, .null]))] ++ ((q1, .inl (g.2.2, 12, .inr (.inr (.inr (.inr (fun i => if i < 12 then some (r1 i) else none)))))) :: (List.range 12).map (fun i => (r1 i, .inl (g.1, 7, .inl (fun _ => 0)))))) H := hP
  have hD : va_D A ([(h0, .inr (8, [.int 0, .null, .null]))] ++ ((q1, .inl (g.2.2, 12, .inr (.inr (.inr (.inr (fun i => if i < 12 then some (r1 i) else none)))))) :: (List.range 12).map (fun i => (r1 i, .inl (g.1, 7, .inl (fun _ => 0)))))) := hD
  refine va_putF (D := D) (ci := 8) (v := .ref q1) (ty := .array (.array .int)) (C := RX8) (T := TX8) (N := 3) hx hb hts zin_X8 tyX8 tyX8_ok nmX8 hown hK hP hD hS 0 rfl rfl 1 (by decide) (hts _ zw_141) (fun _ h9 => h9) rfl hin rfl (by decide +kernel) rfl rfl (Nat.le_of_ble_eq_true rfl) dX8_init_13 (fun H locs hP hD hS => ?_)
  have hP : va_P D vwCl ([(h0, .inr (8, [.int 0, .ref q1, .null]))] ++ ((q1, .inl (g.2.2, 12, .inr (.inr (.inr (.inr (fun i => if i < 12 then some (r1 i) else none)))))) :: (List.range 12).map (fun i => (r1 i, .inl (g.1, 7, .inl (fun _ => 0)))))) H := hP
  have hD : va_D A ([(h0, .inr (8, [.int 0, .ref q1, .null]))] ++ ((q1, .inl (g.2.2, 12, .inr (.inr (.inr (.inr (fun i => if i < 12 then some (r1 i) else none)))))) :: (List.range 12).map (fun i => (r1 i, .inl (g.1, 7, .inl (fun _ => 0)))))) := hD
  refine lv_aload_n hx hb dX8_init_16 rfl (lv_at hl 0 rfl) ?_
  refine lv_bipush (v := (12)) hx hb dX8_init_17 (by decide) ?_
  refine zc_newI hx hb (hts _ zx_97) hK hP hD hS hA 12 (by decide) (by decide) (Nat.le_of_ble_eq_true rfl) (Nat.le_of_ble_eq_true rfl) (Nat.le_of_ble_eq_true rfl) dX8_init_19 (fun q2 H hP hD hS => ?_)
  have hP : va_P D vwCl (([(h0, .inr (8, [.int 0, .ref q1, .null]))] ++ ((q1, .inl (g.2.2, 12, .inr (.inr (.inr (.inr (fun i => if i < 12 then some (r1 i) else none)))))) :: (List.range 12).map (fun i => (r1 i, .inl (g.1, 7, .inl (fun _ => 0)))))) ++ [(q2, .inl (g.1, 12, .inl (fun _ => 0)))]) H := hP
  have hD : va_D A (([(h0, .inr (8, [.int 0, .ref q1, .null]))] ++ ((q1, .inl (g.2.2, 12, .inr (.inr (.inr (.inr (fun i => if i < 12 then some (r1 i) else none)))))) :: (List.range 12).map (fun i => (r1 i, .inl (g.1, 7, .inl (fun _ => 0)))))) ++ [(q2, .inl (g.1, 12, .inl (fun _ => 0)))]) := hD
  refine va_putF (D := D) (ci := 8) (v := .ref q2) (ty := .array .int) (C := RX8) (T := TX8) (N := 3) hx hb hts zin_X8 tyX8 tyX8_ok nmX8 hown hK hP hD hS 0 rfl rfl 2 (by decide) (hts _ zw_142) (fun _ h9 => h9) rfl hin rfl (by decide +kernel) rfl rfl (Nat.le_of_ble_eq_true rfl) dX8_init_21 (fun H locs hP hD hS => ?_)
  have hP : va_P D vwCl (([(h0, .inr (8, [.int 0, .ref q1, .ref q2]))] ++ ((q1, .inl (g.2.2, 12, .inr (.inr (.inr (.inr (fun i => if i < 12 then some (r1 i) else none)))))) :: (List.range 12).map (fun i => (r1 i, .inl (g.1, 7, .inl (fun _ => 0)))))) ++ [(q2, .inl (g.1, 12, .inl (fun _ => 0)))]) H := hP
  have hD : va_D A (([(h0, .inr (8, [.int 0, .ref q1, .ref q2]))] ++ ((q1, .inl (g.2.2, 12, .inr (.inr (.inr (.inr (fun i => if i < 12 then some (r1 i) else none)))))) :: (List.range 12).map (fun i => (r1 i, .inl (g.1, 7, .inl (fun _ => 0)))))) ++ [(q2, .inl (g.1, 12, .inl (fun _ => 0)))]) := hD
  refine W.widen (k := 14) (n := 108) (Nat.le_of_ble_eq_true rfl) (Nat.le_of_ble_eq_true rfl) ?_
  exact hret _ _ _ _ (adX8 h0 q1 q2 r1) rfl (by rw [zwX8]; exact hP) (by rw [zwX8]; exact hD) hS dX8_init_24
def adX9 (h0 : Nat) (q1 : Nat) (r1 : Nat → Nat) : Nat → Nat := fun j => if j = 5 then h0 else if j = 48 then q1 else r1 (j - 49)
def jsX9 : List Nat := [5, 48, 49, 50, 51, 52, 53, 54]
set_option maxRecDepth 100000 in
theorem zwX9 (g : zG) (h0 : Nat) (q1 : Nat) (r1 : Nat → Nat) : zWs g 0 (adX9 h0 q1 r1) zS0 jsX9 = ([(h0, .inr (9, [.ref q1, .int 0, .int 0]))] ++ ((q1, .inl (g.2.2, 6, .inr (.inr (.inr (.inr (fun i => if i < 6 then some (r1 i) else none)))))) :: (List.range 6).map (fun i => (r1 i, .inl (g.1, 7, .inl (fun _ => 0)))))) := by
  have e48 : zcell g 0 (adX9 h0 q1 r1) zS0 48 = .inl (g.2.2, 6, .inr (.inr (.inr (.inr (fun i => if i < 6 then some (r1 i) else none))))) := zouterc (by decide) (by decide) (by decide) (fun i hi => by
    unfold adX9
    rw [if_neg (by omega), if_neg (by omega)]
    congr 1
    omega)
  unfold zWs jsX9
  simp only [List.map_cons, List.map_nil]
  rw [e48]
  rfl
theorem hiX9 : yX9_init.cls ≠ "java/lang/invoke/MethodHandle" ∧ yX9_init.cls ≠ "java/lang/invoke/VarHandle" ∧ (parseMethodDescriptor yX9_init.desc).map (fun d => d.parameters.length) = some 0 := by decide +kernel
abbrev zRcX9 : Room := { frames := 1, cells := 7, slots := 48, locals := 45 }
set_option maxHeartbeats 4000000 in
set_option maxRecDepth 100000 in
theorem kX9_init (l : Launch) (D : va_G) (g : zG) (h0 : Nat) : zCt l D g yX9_init (Cond.code yX9_init cX9_init 1 none :: zws) zRcX9 [.ref h0] [(h0, .inr (9, [.null, .int 0, .int 0]))] (fun ad => ad 5 = h0) (fun ad => zWs g 0 ad zS0 jsX9) := by
  refine z_enter_c (by decide) (Nat.le_of_ble_eq_true rfl) ?_
  intro p e s m below meth c A ls Q C hTb hin hP hD hS hl hret
  obtain ⟨hx, hb, hml, hown, hts, hK, hA⟩ := id C
  have hown : s.vm.findClass RX9 = some m.cls := hown
  have hin : meth.name = "<init>" := hin
  have hl : lv_has ls 1 [(0, .ref h0)] := hl
  refine lv_aload_n hx hb dX9_init_0 rfl (lv_at hl 0 rfl) ?_
  refine W.objInit hx hb hown (hts _ zw_178) (hts _ zw_73) (hts _ zw_74) rfl (by rw [hml]; exact hl.1) rfl dX9_init_1 (Nat.le_of_ble_eq_true rfl) (Nat.le_of_ble_eq_true rfl) ?_
  refine W.eq (g2 := F0 m 4 ls []) rfl ?_
  refine lv_aload_n hx hb dX9_init_4 rfl (lv_at hl 0 rfl) ?_
  refine lv_bipush (v := (6)) hx hb dX9_init_5 (by decide) ?_
  refine lv_bipush (v := (7)) hx hb dX9_init_7 (by decide) ?_
  refine zc_mna hx hb hown (hts _ zx_179) hTb.1 (hts _ zx_97) hK hP hD hS hA 6 7 (by decide) (by decide) (by decide) (by decide) (Nat.le_of_ble_eq_true rfl) (Nat.le_of_ble_eq_true rfl) (Nat.le_of_ble_eq_true rfl) (Nat.le_of_ble_eq_true rfl) dX9_init_9 (fun q1 r1 H hP hD hS => ?_)
  have hP : va_P D vwCl ([(h0, .inr (9, [.null, .int 0, .int 0]))] ++ ((q1, .inl (g.2.2, 6, .inr (.inr (.inr (.inr (fun i => if i < 6 then some (r1 i) else none)))))) :: (List.range 6).map (fun i => (r1 i, .inl (g.1, 7, .inl (fun _ => 0)))))) H := hP
  have hD : va_D A ([(h0, .inr (9, [.null, .int 0, .int 0]))] ++ ((q1, .inl (g.2.2, 6, .inr (.inr (.inr (.inr (fun i => if i < 6 then some (r1 i) else none)))))) :: (List.range 6).map (fun i => (r1 i, .inl (g.1, 7, .inl (fun _ => 0)))))) := hD
  refine va_putF (D := D) (ci := 9) (v := .ref q1) (ty := .array (.array .int)) (C := RX9) (T := TX9) (N := 3) hx hb hts zin_X9 tyX9 tyX9_ok nmX9 hown hK hP hD hS 0 rfl rfl 0 (by decide) (hts _ zw_180) (fun _ h9 => h9) rfl hin rfl (by decide +kernel) rfl rfl (Nat.le_of_ble_eq_true rfl) dX9_init_13 (fun H locs hP hD hS => ?_)
  have hP : va_P D vwCl ([(h0, .inr (9, [.ref q1, .int 0, .int 0]))] ++ ((q1, .inl (g.2.2, 6, .inr (.inr (.inr (.inr (fun i => if i < 6 then some (r1 i) else none)))))) :: (List.range 6).map (fun i => (r1 i, .inl (g.1, 7, .inl (fun _ => 0)))))) H := hP
  have hD : va_D A ([(h0, .inr (9, [.ref q1, .int 0, .int 0]))] ++ ((q1, .inl (g.2.2, 6, .inr (.inr (.inr (.inr (fun i => if i < 6 then some (r1 i) else none)))))) :: (List.range 6).map (fun i => (r1 i, .inl (g.1, 7, .inl (fun _ => 0)))))) := hD
  refine W.widen (k := 7) (n := 48) (Nat.le_of_ble_eq_true rfl) (Nat.le_of_ble_eq_true rfl) ?_
  exact hret _ _ _ _ (adX9 h0 q1 r1) rfl (by rw [zwX9]; exact hP) (by rw [zwX9]; exact hD) hS dX9_init_16
def adX3 (h0 : Nat) (a1 : Nat) (a2 : Nat) (q1 : Nat) (q2 : Nat) (r1 : Nat → Nat) (r2 : Nat → Nat) : Nat → Nat := fun j => if j = 6 then h0 else if j = 55 then q1 else if j = 62 then q2 else if j = 3 then a1 else if j = 5 then a2 else if j < 62 then r1 (j - 56) else r2 (j - 63)
def jsX3 : List Nat := [6, 55, 56, 57, 58, 59, 60, 61, 62, 63, 64, 65, 66, 67, 68]
set_option maxRecDepth 100000 in
theorem zwX3 (g : zG) (h0 : Nat) (a1 : Nat) (a2 : Nat) (q1 : Nat) (q2 : Nat) (r1 : Nat → Nat) (r2 : Nat → Nat) : zWs g 0 (adX3 h0 a1 a2 q1 q2 r1 r2) zS0 jsX3 = (([(h0, .inr (3, [.ref a1, .ref a2, .ref q1, .ref q2]))] ++ ((q1, .inl (g.2.2, 6, .inr (.inr (.inr (.inr (fun i => if i < 6 then some (r1 i) else none)))))) :: (List.range 6).map (fun i => (r1 i, .inl (g.1, 6, .inl (fun _ => 0)))))) ++ ((q2, .inl (g.2.2, 6, .inr (.inr (.inr (.inr (fun i => if i < 6 then some (r2 i) else none)))))) :: (List.range 6).map (fun i => (r2 i, .inl (g.1, 6, .inl (fun _ => 0)))))) := by
  have e55 : zcell g 0 (adX3 h0 a1 a2 q1 q2 r1 r2) zS0 55 = .inl (g.2.2, 6, .inr (.inr (.inr (.inr (fun i => if i < 6 then some (r1 i) else none))))) := zouterc (by decide) (by decide) (by decide) (fun i hi => by
    unfold adX3
    rw [if_neg (by omega), if_neg (by omega), if_neg (by omega), if_neg (by omega), if_neg (by omega), if_pos (by omega)]
    congr 1
    omega)
  have e62 : zcell g 0 (adX3 h0 a1 a2 q1 q2 r1 r2) zS0 62 = .inl (g.2.2, 6, .inr (.inr (.inr (.inr (fun i => if i < 6 then some (r2 i) else none))))) := zouterc (by decide) (by decide) (by decide) (fun i hi => by
    unfold adX3
    rw [if_neg (by omega), if_neg (by omega), if_neg (by omega), if_neg (by omega), if_neg (by omega), if_neg (by omega)]
    congr 1
    omega)
  unfold zWs jsX3
  simp only [List.map_cons, List.map_nil]
  rw [e55, e62]
  rfl
theorem hiX3 : yX3_init.cls ≠ "java/lang/invoke/MethodHandle" ∧ yX3_init.cls ≠ "java/lang/invoke/VarHandle" ∧ (parseMethodDescriptor yX3_init.desc).map (fun d => d.parameters.length) = some 2 := by decide +kernel
abbrev zRcX3 : Room := { frames := 1, cells := 14, slots := 84, locals := 45 }
set_option maxHeartbeats 4000000 in
set_option maxRecDepth 100000 in
theorem kX3_init (l : Launch) (D : va_G) (g : zG) (h0 : Nat) (a1 : Nat) (a2 : Nat) : zCt l D g yX3_init (Cond.code yX3_init cX3_init 3 none :: zws) zRcX3 [.ref h0, .ref a1, .ref a2] [(h0, .inr (3, [.null, .null, .null, .null]))] (fun ad => ad 6 = h0 ∧ ad 3 = a1 ∧ ad 5 = a2) (fun ad => zWs g 0 ad zS0 jsX3) := by
  refine z_enter_c (by decide) (Nat.le_of_ble_eq_true rfl) ?_
  intro p e s m below meth c A ls Q C hTb hin hP hD hS hl hret
  obtain ⟨hx, hb, hml, hown, hts, hK, hA⟩ := id C
  have hown : s.vm.findClass RX3 = some m.cls := hown
  have hin : meth.name = "<init>" := hin
  have hl : lv_has ls 3 [(0, .ref h0), (1, .ref a1), (2, .ref a2)] := hl
  refine lv_aload_n hx hb dX3_init_0 rfl (lv_at hl 0 rfl) ?_
  refine W.objInit hx hb hown (hts _ zw_199) (hts _ zw_73) (hts _ zw_74) rfl (by rw [hml]; exact hl.1) rfl dX3_init_1 (Nat.le_of_ble_eq_true rfl) (Nat.le_of_ble_eq_true rfl) ?_
  refine W.eq (g2 := F0 m 4 ls []) rfl ?_
  refine lv_aload_n hx hb dX3_init_4 rfl (lv_at hl 0 rfl) ?_
  refine lv_bipush (v := (6)) hx hb dX3_init_5 (by decide) ?_
  refine lv_bipush (v := (6)) hx hb dX3_init_7 (by decide) ?_
  refine zc_mna hx hb hown (hts _ zx_200) hTb.1 (hts _ zx_97) hK hP hD hS hA 6 6 (by decide) (by decide) (by decide) (by decide) (Nat.le_of_ble_eq_true rfl) (Nat.le_of_ble_eq_true rfl) (Nat.le_of_ble_eq_true rfl) (Nat.le_of_ble_eq_true rfl) dX3_init_9 (fun q1 r1 H hP hD hS => ?_)
  have hP : va_P D vwCl ([(h0, .inr (3, [.null, .null, .null, .null]))] ++ ((q1, .inl (g.2.2, 6, .inr (.inr (.inr (.inr (fun i => if i < 6 then some (r1 i) else none)))))) :: (List.range 6).map (fun i => (r1 i, .inl (g.1, 6, .inl (fun _ => 0)))))) H := hP
  have hD : va_D A ([(h0, .inr (3, [.null, .null, .null, .null]))] ++ ((q1, .inl (g.2.2, 6, .inr (.inr (.inr (.inr (fun i => if i < 6 then some (r1 i) else none)))))) :: (List.range 6).map (fun i => (r1 i, .inl (g.1, 6, .inl (fun _ => 0)))))) := hD
  refine va_putF (D := D) (ci := 3) (v := .ref q1) (ty := .array (.array .int)) (C := RX3) (T := TX3) (N := 4) hx hb hts zin_X3 tyX3 tyX3_ok nmX3 hown hK hP hD hS 0 rfl rfl 2 (by decide) (hts _ zw_203) (fun _ h9 => h9) rfl hin rfl (by decide +kernel) rfl rfl (Nat.le_of_ble_eq_true rfl) dX3_init_13 (fun H locs hP hD hS => ?_)
  have hP : va_P D vwCl ([(h0, .inr (3, [.null, .null, .ref q1, .null]))] ++ ((q1, .inl (g.2.2, 6, .inr (.inr (.inr (.inr (fun i => if i < 6 then some (r1 i) else none)))))) :: (List.range 6).map (fun i => (r1 i, .inl (g.1, 6, .inl (fun _ => 0)))))) H := hP
  have hD : va_D A ([(h0, .inr (3, [.null, .null, .ref q1, .null]))] ++ ((q1, .inl (g.2.2, 6, .inr (.inr (.inr (.inr (fun i => if i < 6 then some (r1 i) else none)))))) :: (List.range 6).map (fun i => (r1 i, .inl (g.1, 6, .inl (fun _ => 0)))))) := hD
  refine lv_aload_n hx hb dX3_init_16 rfl (lv_at hl 0 rfl) ?_
  refine lv_bipush (v := (6)) hx hb dX3_init_17 (by decide) ?_
  refine lv_bipush (v := (6)) hx hb dX3_init_19 (by decide) ?_
  refine zc_mna hx hb hown (hts _ zx_200) hTb.1 (hts _ zx_97) hK hP hD hS hA 6 6 (by decide) (by decide) (by decide) (by decide) (Nat.le_of_ble_eq_true rfl) (Nat.le_of_ble_eq_true rfl) (Nat.le_of_ble_eq_true rfl) (Nat.le_of_ble_eq_true rfl) dX3_init_21 (fun q2 r2 H hP hD hS => ?_)
  have hP : va_P D vwCl (([(h0, .inr (3, [.null, .null, .ref q1, .null]))] ++ ((q1, .inl (g.2.2, 6, .inr (.inr (.inr (.inr (fun i => if i < 6 then some (r1 i) else none)))))) :: (List.range 6).map (fun i => (r1 i, .inl (g.1, 6, .inl (fun _ => 0)))))) ++ ((q2, .inl (g.2.2, 6, .inr (.inr (.inr (.inr (fun i => if i < 6 then some (r2 i) else none)))))) :: (List.range 6).map (fun i => (r2 i, .inl (g.1, 6, .inl (fun _ => 0)))))) H := hP
  have hD : va_D A (([(h0, .inr (3, [.null, .null, .ref q1, .null]))] ++ ((q1, .inl (g.2.2, 6, .inr (.inr (.inr (.inr (fun i => if i < 6 then some (r1 i) else none)))))) :: (List.range 6).map (fun i => (r1 i, .inl (g.1, 6, .inl (fun _ => 0)))))) ++ ((q2, .inl (g.2.2, 6, .inr (.inr (.inr (.inr (fun i => if i < 6 then some (r2 i) else none)))))) :: (List.range 6).map (fun i => (r2 i, .inl (g.1, 6, .inl (fun _ => 0)))))) := hD
  refine va_putF (D := D) (ci := 3) (v := .ref q2) (ty := .array (.array .int)) (C := RX3) (T := TX3) (N := 4) hx hb hts zin_X3 tyX3 tyX3_ok nmX3 hown hK hP hD hS 0 rfl rfl 3 (by decide) (hts _ zw_204) (fun _ h9 => h9) rfl hin rfl (by decide +kernel) rfl rfl (Nat.le_of_ble_eq_true rfl) dX3_init_25 (fun H locs hP hD hS => ?_)
  have hP : va_P D vwCl (([(h0, .inr (3, [.null, .null, .ref q1, .ref q2]))] ++ ((q1, .inl (g.2.2, 6, .inr (.inr (.inr (.inr (fun i => if i < 6 then some (r1 i) else none)))))) :: (List.range 6).map (fun i => (r1 i, .inl (g.1, 6, .inl (fun _ => 0)))))) ++ ((q2, .inl (g.2.2, 6, .inr (.inr (.inr (.inr (fun i => if i < 6 then some (r2 i) else none)))))) :: (List.range 6).map (fun i => (r2 i, .inl (g.1, 6, .inl (fun _ => 0)))))) H := hP
  have hD : va_D A (([(h0, .inr (3, [.null, .null, .ref q1, .ref q2]))] ++ ((q1, .inl (g.2.2, 6, .inr (.inr (.inr (.inr (fun i => if i < 6 then some (r1 i) else none)))))) :: (List.range 6).map (fun i => (r1 i, .inl (g.1, 6, .inl (fun _ => 0)))))) ++ ((q2, .inl (g.2.2, 6, .inr (.inr (.inr (.inr (fun i => if i < 6 then some (r2 i) else none)))))) :: (List.range 6).map (fun i => (r2 i, .inl (g.1, 6, .inl (fun _ => 0)))))) := hD
  refine lv_aload_n hx hb dX3_init_28 rfl (lv_at hl 0 rfl) ?_
  refine lv_aload_n hx hb dX3_init_29 rfl (lv_at hl 1 rfl) ?_
  refine va_putF (D := D) (ci := 3) (v := .ref a1) (ty := .object "ToldOver$Tongues") (C := RX3) (T := TX3) (N := 4) hx hb hts zin_X3 tyX3 tyX3_ok nmX3 hown hK hP hD hS 0 rfl rfl 0 (by decide) (hts _ zw_201) (fun _ h9 => h9) rfl hin rfl (by decide +kernel) rfl rfl (Nat.le_of_ble_eq_true rfl) dX3_init_30 (fun H locs hP hD hS => ?_)
  have hP : va_P D vwCl (([(h0, .inr (3, [.ref a1, .null, .ref q1, .ref q2]))] ++ ((q1, .inl (g.2.2, 6, .inr (.inr (.inr (.inr (fun i => if i < 6 then some (r1 i) else none)))))) :: (List.range 6).map (fun i => (r1 i, .inl (g.1, 6, .inl (fun _ => 0)))))) ++ ((q2, .inl (g.2.2, 6, .inr (.inr (.inr (.inr (fun i => if i < 6 then some (r2 i) else none)))))) :: (List.range 6).map (fun i => (r2 i, .inl (g.1, 6, .inl (fun _ => 0)))))) H := hP
  have hD : va_D A (([(h0, .inr (3, [.ref a1, .null, .ref q1, .ref q2]))] ++ ((q1, .inl (g.2.2, 6, .inr (.inr (.inr (.inr (fun i => if i < 6 then some (r1 i) else none)))))) :: (List.range 6).map (fun i => (r1 i, .inl (g.1, 6, .inl (fun _ => 0)))))) ++ ((q2, .inl (g.2.2, 6, .inr (.inr (.inr (.inr (fun i => if i < 6 then some (r2 i) else none)))))) :: (List.range 6).map (fun i => (r2 i, .inl (g.1, 6, .inl (fun _ => 0)))))) := hD
  refine lv_aload_n hx hb dX3_init_33 rfl (lv_at hl 0 rfl) ?_
  refine lv_aload_n hx hb dX3_init_34 rfl (lv_at hl 2 rfl) ?_
  refine va_putF (D := D) (ci := 3) (v := .ref a2) (ty := .object "ToldOver$Witness") (C := RX3) (T := TX3) (N := 4) hx hb hts zin_X3 tyX3 tyX3_ok nmX3 hown hK hP hD hS 0 rfl rfl 1 (by decide) (hts _ zw_202) (fun _ h9 => h9) rfl hin rfl (by decide +kernel) rfl rfl (Nat.le_of_ble_eq_true rfl) dX3_init_35 (fun H locs hP hD hS => ?_)
  have hP : va_P D vwCl (([(h0, .inr (3, [.ref a1, .ref a2, .ref q1, .ref q2]))] ++ ((q1, .inl (g.2.2, 6, .inr (.inr (.inr (.inr (fun i => if i < 6 then some (r1 i) else none)))))) :: (List.range 6).map (fun i => (r1 i, .inl (g.1, 6, .inl (fun _ => 0)))))) ++ ((q2, .inl (g.2.2, 6, .inr (.inr (.inr (.inr (fun i => if i < 6 then some (r2 i) else none)))))) :: (List.range 6).map (fun i => (r2 i, .inl (g.1, 6, .inl (fun _ => 0)))))) H := hP
  have hD : va_D A (([(h0, .inr (3, [.ref a1, .ref a2, .ref q1, .ref q2]))] ++ ((q1, .inl (g.2.2, 6, .inr (.inr (.inr (.inr (fun i => if i < 6 then some (r1 i) else none)))))) :: (List.range 6).map (fun i => (r1 i, .inl (g.1, 6, .inl (fun _ => 0)))))) ++ ((q2, .inl (g.2.2, 6, .inr (.inr (.inr (.inr (fun i => if i < 6 then some (r2 i) else none)))))) :: (List.range 6).map (fun i => (r2 i, .inl (g.1, 6, .inl (fun _ => 0)))))) := hD
  refine W.widen (k := 14) (n := 84) (Nat.le_of_ble_eq_true rfl) (Nat.le_of_ble_eq_true rfl) ?_
  exact hret _ _ _ _ (adX3 h0 a1 a2 q1 q2 r1 r2) ⟨rfl, rfl, rfl⟩ (by rw [zwX3]; exact hP) (by rw [zwX3]; exact hD) hS dX3_init_38
