/-! MAKING OBJECTS: words, rows for new arrays, the contracts of constructors -/
theorem zx_67 : (.classLink RL (7) RX10 : Cond) ∈ zws := List.mem_filter.mpr ⟨zv_67, rfl⟩
theorem zx_68 : (.instantiable RX10 (11) : Cond) ∈ zws := List.mem_filter.mpr ⟨zv_68, rfl⟩
theorem zx_75 : (.classLink RX10 (11) RX6 : Cond) ∈ zws := List.mem_filter.mpr ⟨zv_75, rfl⟩
theorem zx_76 : (.instantiable RX6 (3) : Cond) ∈ zws := List.mem_filter.mpr ⟨zv_76, rfl⟩
theorem zx_81 : (.classLink RX6 (11) "[[I" : Cond) ∈ zws := List.mem_filter.mpr ⟨zv_81, rfl⟩
theorem zx_97 : (.arrayClass .int : Cond) ∈ zws := List.mem_filter.mpr ⟨zv_97, rfl⟩
theorem zx_98 : (.classLink RX10 (18) RX5 : Cond) ∈ zws := List.mem_filter.mpr ⟨zv_98, rfl⟩
theorem zx_99 : (.instantiable RX5 (7) : Cond) ∈ zws := List.mem_filter.mpr ⟨zv_99, rfl⟩
theorem zx_104 : (.classLink RX5 (9) "[[I" : Cond) ∈ zws := List.mem_filter.mpr ⟨zv_104, rfl⟩
theorem zx_130 : (.classLink RX10 (25) RX8 : Cond) ∈ zws := List.mem_filter.mpr ⟨zv_130, rfl⟩
theorem zx_131 : (.instantiable RX8 (3) : Cond) ∈ zws := List.mem_filter.mpr ⟨zv_131, rfl⟩
theorem zx_136 : (.classLink RX8 (9) "[[I" : Cond) ∈ zws := List.mem_filter.mpr ⟨zv_136, rfl⟩
theorem zx_150 : (.classLink RX10 (32) RX2 : Cond) ∈ zws := List.mem_filter.mpr ⟨zv_150, rfl⟩
theorem zx_151 : (.instantiable RX2 (4) : Cond) ∈ zws := List.mem_filter.mpr ⟨zv_151, rfl⟩
theorem zx_173 : (.classLink RX10 (39) RX9 : Cond) ∈ zws := List.mem_filter.mpr ⟨zv_173, rfl⟩
theorem zx_174 : (.instantiable RX9 (3) : Cond) ∈ zws := List.mem_filter.mpr ⟨zv_174, rfl⟩
theorem zx_179 : (.classLink RX9 (9) "[[I" : Cond) ∈ zws := List.mem_filter.mpr ⟨zv_179, rfl⟩
theorem zx_194 : (.classLink RX10 (46) RX3 : Cond) ∈ zws := List.mem_filter.mpr ⟨zv_194, rfl⟩
theorem zx_195 : (.instantiable RX3 (4) : Cond) ∈ zws := List.mem_filter.mpr ⟨zv_195, rfl⟩
theorem zx_200 : (.classLink RX3 (9) "[[I" : Cond) ∈ zws := List.mem_filter.mpr ⟨zv_200, rfl⟩
theorem zx_214 : (.classLink RX10 (55) RX1 : Cond) ∈ zws := List.mem_filter.mpr ⟨zv_214, rfl⟩
theorem zx_215 : (.instantiable RX1 (4) : Cond) ∈ zws := List.mem_filter.mpr ⟨zv_215, rfl⟩
theorem zx_234 : (.arrayClass .long : Cond) ∈ zws := List.mem_filter.mpr ⟨zv_234, rfl⟩
theorem zx_235 : (.classLink RX10 (62) RX4 : Cond) ∈ zws := List.mem_filter.mpr ⟨zv_235, rfl⟩
theorem zx_236 : (.instantiable RX4 (4) : Cond) ∈ zws := List.mem_filter.mpr ⟨zv_236, rfl⟩
theorem zx_241 : (.classLink RX4 (9) "[[I" : Cond) ∈ zws := List.mem_filter.mpr ⟨zv_241, rfl⟩
theorem zx_258 : (.classLink RX10 (69) RX7 : Cond) ∈ zws := List.mem_filter.mpr ⟨zv_258, rfl⟩
theorem zx_259 : (.instantiable RX7 (4) : Cond) ∈ zws := List.mem_filter.mpr ⟨zv_259, rfl⟩
theorem zx_277 : (.classLink RX10 (76) RX0 : Cond) ∈ zws := List.mem_filter.mpr ⟨zv_277, rfl⟩
theorem zx_278 : (.instantiable RX0 (3) : Cond) ∈ zws := List.mem_filter.mpr ⟨zv_278, rfl⟩
theorem zx_832 : (.classLink RL (10) RX11 : Cond) ∈ zws := List.mem_filter.mpr ⟨zv_832, rfl⟩
theorem zx_833 : (.instantiable RX11 (28) : Cond) ∈ zws := List.mem_filter.mpr ⟨zv_833, rfl⟩
/-- what the tables say besides the words: the class of int[][], the links to the private constructors -/
def zTb (U : State) : Prop := va_Nw (.arrayOver (.array .int)) U ∧ va_Nw (.methodLinkNest RX10 (20) yX5_init RX10) U ∧ va_Nw (.methodLinkNest RX10 (27) yX8_init RX10) U ∧ va_Nw (.methodLinkNest RX10 (34) yX2_init RX10) U ∧ va_Nw (.methodLinkNest RX10 (41) yX9_init RX10) U ∧ va_Nw (.methodLinkNest RX10 (57) yX1_init RX10) U ∧ va_Nw (.methodLinkNest RX10 (64) yX4_init RX10) U ∧ va_Nw (.methodLinkNest RX10 (71) yX7_init RX10) U ∧ va_Nw (.methodLinkNest RX10 (78) yX0_init RX10) U
theorem zTb.same {u U : State} (h : u.vm = U.vm) (hZ : zTb u) : zTb U := by
  obtain ⟨h0, h1, h2, h3, h4, h5, h6, h7, h8⟩ := hZ
  exact ⟨arrayOver_alikeB (show u.vm.Alike U.vm by rw [h]; exact Vm.Alike.refl _) h0, va_Nw.same rfl h h1, va_Nw.same rfl h h2, va_Nw.same rfl h h3, va_Nw.same rfl h h4, va_Nw.same rfl h h5, va_Nw.same rfl h h6, va_Nw.same rfl h h7, va_Nw.same rfl h h8⟩
theorem zTb.warm {s U : State} (hW : s.WarmedH U.vm) (hZ : zTb s) : zTb U := by
  obtain ⟨h0, h1, h2, h3, h4, h5, h6, h7, h8⟩ := hZ
  exact ⟨arrayOver_alikeB hW.alike h0, va_Nw.warmM hW h1, va_Nw.warmM hW h2, va_Nw.warmM hW h3, va_Nw.warmM hW h4, va_Nw.warmM hW h5, va_Nw.warmM hW h6, va_Nw.warmM hW h7, va_Nw.warmM hW h8⟩
theorem zTb.of {args : Array Value} {s : State} (hts : ∀ w ∈ lw_tbl, w.before args s = true) : zTb s := ⟨hts _ zv_82, va_Nw.of rfl (hts _ zv_100), va_Nw.of rfl (hts _ zv_132), va_Nw.of rfl (hts _ zv_152), va_Nw.of rfl (hts _ zv_175), va_Nw.of rfl (hts _ zv_216), va_Nw.of rfl (hts _ zv_237), va_Nw.of rfl (hts _ zv_260), va_Nw.of rfl (hts _ zv_279)⟩
theorem zouter (c : ClassId) (N h0 : Nat) : ∀ i : Nat, Jvm.Free.Multi.outerC c N h0 i = arrV c N (fun j => va_rf (if j < i then some (h0 + 1 + j) else none))
  | 0 => by
    show ({ cls := c, slots := Array.replicate N .null, vm := .none } : Cell) = _
    rw [arrV_new]
    exact congrArg (arrV c N) (funext fun j => by simp [va_rf])
  | i + 1 => by
    show (Jvm.Free.Multi.outerC c N h0 i).setSlot i (.ref (h0 + 1 + i)) = _
    rw [zouter c N h0 i, arrV_store]
    refine congrArg (arrV c N) (funext fun j => ?_)
    by_cases e : j = i
    · subst e
      simp [updV, va_rf]
    · by_cases h : j < i
      · simp [updV, e, h, Nat.lt_succ_of_lt h]
      · simp [updV, e, h, show ¬ j < i + 1 by omega]
/-- new cells at the heap's end, one behind another -/
theorem zfresh {A : Nat → Prop} {D : va_G} {cl : List vw_C} {ws nw : va_W} {H : Heap} (hD : va_D A ws) (hP : va_P D cl ws H) (hn : ∀ (k : Nat) (x : Nat × va_E), nw[k]? = some x → x.1 = H.size + k) (hA : ∀ q, H.size ≤ q → A q) : va_D A (ws ++ nw) := by
  refine va_D.app hD ⟨fun i j x y hi hj e => ?_, fun k x hx => hA _ (by rw [hn k x hx]; omega)⟩ (fun i j x y hi hj e => ?_)
  · have := hn i x hi
    have := hn j y hj
    omega
  · have := (hP i x hi).lt
    have := hn j y hj
    omega
section ZMAKE
variable {p : Program} {l : Launch} {e : Env} {R : Room} {s : State} {m : MethodId} {args : Array Value} {below : List Frame} {meth : Method} {c : Code} {H : Heap} {locs : List Loc} {cells slots : Nat} {Q : State → Prop}
variable {cc : ByteArray} {pc : Nat} {ls : Array Slot} {rest : List Value} {D : va_G} {A : Nat → Prop} {H0 : Heap} {g : zG} {ws : va_W}
theorem zc_newI (hexec : p.tables.exec = Jvm.exec) (hb : c.code = cc) (harr : (Cond.arrayClass .int).before args s = true) (hK : va_K D vwCl (zT g) s) (hP : va_P D vwCl ws H) (hD : va_D A ws) (hS : va_S A H0 H locs) (hA : ∀ q, H0.size ≤ q → A q) {n : Int32} (N' : Nat) (hn : ¬ n < 0) (hN : n.toNatClampNeg = N') (hbytes : N' * 4 ≤ 536870912) (hcells : cells + 1 ≤ R.cells) (hslots : slots + N' ≤ R.slots) (hdg : decode cc pc = .ok (.newarray .int, 2))
    (kk : ∀ (q : Nat) (H1 : Heap), va_P D vwCl (ws ++ [(q, .inl (g.1, N', .inl (fun _ => 0)))]) H1 → va_D A (ws ++ [(q, .inl (g.1, N', .inl (fun _ => 0)))]) → va_S A H0 H1 locs → W p l e R s m args below meth c H1 locs (cells + 1) (slots + N') Q (F0 m (pc + 2) ls (.ref q :: rest))) : W p l e R s m args below meth c H locs cells slots Q (F0 m pc ls (.int n :: rest)) := by
  refine va_newa (atype := .int) (ty := .int) (a0 := (N', .inl (fun _ => 0))) hexec hb harr rfl hK hP hD hS hA (fun _ => rfl) hn hN hbytes hcells hslots hdg (fun q cA H1 hK1 hP1 hD1 hS1 => ?_)
  have e1 : s.vm.findClass ("[" ++ FieldType.int.toString) = some cA := (hK1.2 3 _ rfl).2
  have e2 : s.vm.findClass ("[" ++ FieldType.int.toString) = some g.1 := (hK.2 0 _ rfl).2
  have e3 : cA = g.1 := Option.some.inj (e1.symm.trans e2)
  subst e3
  exact kk q H1 hP1 hD1 hS1
theorem zc_newJ (hexec : p.tables.exec = Jvm.exec) (hb : c.code = cc) (harr : (Cond.arrayClass .long).before args s = true) (hK : va_K D vwCl (zT g) s) (hP : va_P D vwCl ws H) (hD : va_D A ws) (hS : va_S A H0 H locs) (hA : ∀ q, H0.size ≤ q → A q) {n : Int32} (N' : Nat) (hn : ¬ n < 0) (hN : n.toNatClampNeg = N') (hbytes : N' * 8 ≤ 536870912) (hcells : cells + 1 ≤ R.cells) (hslots : slots + N' ≤ R.slots) (hdg : decode cc pc = .ok (.newarray .long, 2))
    (kk : ∀ (q : Nat) (H1 : Heap), va_P D vwCl (ws ++ [(q, .inl (g.2.1, N', .inr (.inl (fun _ => 0))))]) H1 → va_D A (ws ++ [(q, .inl (g.2.1, N', .inr (.inl (fun _ => 0))))]) → va_S A H0 H1 locs → W p l e R s m args below meth c H1 locs (cells + 1) (slots + N') Q (F0 m (pc + 2) ls (.ref q :: rest))) : W p l e R s m args below meth c H locs cells slots Q (F0 m pc ls (.int n :: rest)) := by
  refine va_newa (atype := .long) (ty := .long) (a0 := (N', .inr (.inl (fun _ => 0)))) hexec hb harr rfl hK hP hD hS hA (fun _ => rfl) hn hN hbytes hcells hslots hdg (fun q cA H1 hK1 hP1 hD1 hS1 => ?_)
  have e1 : s.vm.findClass ("[" ++ FieldType.long.toString) = some cA := (hK1.2 3 _ rfl).2
  have e2 : s.vm.findClass ("[" ++ FieldType.long.toString) = some g.2.1 := (hK.2 1 _ rfl).2
  have e3 : cA = g.2.1 := Option.some.inj (e1.symm.trans e2)
  subst e3
  exact kk q H1 hP1 hD1 hS1
/-- new int[n][k]: the outer row, then the inner ones -/
theorem zc_mna (hexec : p.tables.exec = Jvm.exec) (hb : c.code = cc) {own : String} {index : Nat} (hown : s.vm.findClass own = some m.cls) (hclink : (Cond.classLink own index "[[I").before args s = true) (hover : va_Nw (.arrayOver (.array .int)) s) (harr : (Cond.arrayClass .int).before args s = true) (hK : va_K D vwCl (zT g) s) (hP : va_P D vwCl ws H) (hD : va_D A ws) (hS : va_S A H0 H locs) (hA : ∀ q, H0.size ≤ q → A q)
    {n k : Int32} (N' K' : Nat) (hn : ¬ n < 0) (hk : ¬ k < 0) (hN : n.toNatClampNeg = N') (hM : k.toNatClampNeg = K') (hb1 : N' * 4 ≤ 536870912) (hb2 : K' * 4 ≤ 536870912) (hcells : cells + (1 + N') ≤ R.cells) (hslots : slots + (N' + N' * K') ≤ R.slots) (hdg : decode cc pc = .ok (.multianewarray index 2, 4))
    (kk : ∀ (q : Nat) (r : Nat → Nat) (H1 : Heap), va_P D vwCl (ws ++ ((q, .inl (g.2.2, N', .inr (.inr (.inr (.inr (fun i => if i < N' then some (r i) else none)))))) :: (List.range N').map (fun i => (r i, .inl (g.1, K', .inl (fun _ => 0)))))) H1 → va_D A (ws ++ ((q, .inl (g.2.2, N', .inr (.inr (.inr (.inr (fun i => if i < N' then some (r i) else none)))))) :: (List.range N').map (fun i => (r i, .inl (g.1, K', .inl (fun _ => 0)))))) → va_S A H0 H1 locs →
      W p l e R s m args below meth c H1 locs (cells + 1 + N') (slots + N' + N' * K') Q (F0 m (pc + 4) ls (.ref q :: rest))) : W p l e R s m args below meth c H locs cells slots Q (F0 m pc ls (.int k :: .int n :: rest)) := by
  subst hN
  subst hM
  intro T hT Xs
  obtain ⟨vm₁, cA, comp, -, fA, fC, hO, -, X', step⟩ := Xs.multianewarray2F (ty := .int) hexec hown hclink hover harr (g := F0 m pc ls (.int k :: .int n :: rest)) rfl (by rw [hb]; exact hdg) rfl hn hk hb1 hb2 (by omega) rfl rfl hcells hslots
  have eA : cA = g.2.2 := Option.some.inj (fA.symm.trans (hK.2 2 _ rfl).2)
  have eC : comp = g.1 := Option.some.inj (fC.symm.trans (hK.2 0 _ rfl).2)
  subst eA eC
  generalize hF : Jvm.Free.Multi.fill (T.setVm vm₁) g.2.2 g.1 n.toNatClampNeg k.toNatClampNeg (defaultValue .int) n.toNatClampNeg = F at X' step
  have hTh : (T.setVm vm₁).heap = H := hT
  obtain ⟨f1, f2, -, -⟩ := Jvm.Free.Multi.fill_facts (T.setVm vm₁) g.2.2 g.1 n.toNatClampNeg k.toNatClampNeg (defaultValue .int) n.toNatClampNeg
  rw [hF, hTh] at f1 f2
  have hold : ∀ x : Nat, x < H.size → F.heap[x]? = H[x]? := fun x hx => by
    have := Jvm.Free.Multi.fill_old (T.setVm vm₁) g.2.2 g.1 n.toNatClampNeg k.toNatClampNeg (defaultValue .int) (a := x) (by rw [hTh]; exact hx) n.toNatClampNeg
    rw [hF, hTh] at this
    exact this
  have hrow : ∀ j : Nat, j < n.toNatClampNeg → F.heap[H.size + 1 + j]? = some (vp_cell g.1 (k.toNatClampNeg, .inl (fun _ => 0))) := fun j hj => by
    have := Jvm.Free.Multi.fill_inner (T.setVm vm₁) g.2.2 g.1 n.toNatClampNeg k.toNatClampNeg (defaultValue .int) n.toNatClampNeg j hj
    rw [hF, hTh] at this
    rw [this]
    show some ({ cls := g.1, slots := Array.replicate k.toNatClampNeg (.int 0), vm := .none } : Cell) = _
    rw [arrV_new]
    rfl
  rw [zouter] at f2
  have ha2 : ∀ (k9 : Nat) (x : Nat × va_E), ((H.size, (.inl (g.2.2, n.toNatClampNeg, .inr (.inr (.inr (.inr (fun i => if i < n.toNatClampNeg then some (H.size + 1 + i) else none))))) : va_E)) :: (List.range n.toNatClampNeg).map (fun i => (H.size + 1 + i, (.inl (g.1, k.toNatClampNeg, .inl (fun _ => 0)) : va_E))))[k9]? = some x → x.1 = H.size + k9 := fun k9 x hx => by
    cases k9 with
    | zero => cases hx; rfl
    | succ k9 =>
      rw [List.getElem?_cons_succ, List.getElem?_map] at hx
      by_cases h9 : k9 < n.toNatClampNeg
      · rw [List.getElem?_range h9] at hx
        cases hx
        show H.size + 1 + k9 = _
        omega
      · rw [List.getElem?_eq_none (by rw [List.length_range]; omega)] at hx
        cases hx
  obtain ⟨t2, a1, b1⟩ := kk H.size (fun i => H.size + 1 + i) F.heap (va_P.app (hP.kept (fun k9 x hx => hold x.1 ((hP k9 x hx).lt))) (fun k9 x hx => by
    cases k9 with
    | zero => cases hx; exact f2
    | succ k9 =>
      rw [List.getElem?_cons_succ] at hx
      obtain ⟨i, hi, rfl⟩ := List.mem_map.mp (List.mem_of_getElem? hx)
      exact hrow i (List.mem_range.mp hi))) (zfresh hD hP ha2 (fun q hq => hA q (Nat.le_trans hS.1 hq))) ⟨Nat.le_trans hS.1 (by rw [f1]; omega), fun x h1 h2 => (hold x (Nat.lt_of_lt_of_le h1 hS.1)).trans (hS.2.1 x h1 h2), hS.2.2⟩ F rfl X'
  rw [hT] at step
  exact ⟨t2, step t2 a1, b1⟩
end ZMAKE
/-! THE CONTRACT OF A CONSTRUCTOR: from a world w0 to the world Wd of some addresses -/
def zCpre (D : va_G) (g : zG) (w0 : va_W) (sz : Nat) (U : State) : Prop := U.heap.size = sz ∧ va_P D vwCl w0 U.heap ∧ va_K D vwCl (zT g) U ∧ va_D (fun _ => True) w0 ∧ zTb U
def zCt (l : Launch) (D : va_G) (g : zG) (y : MethodName) (ws : List Cond) (rm : Room) (av : List Value) (w0 : va_W) (post : (Nat → Nat) → Prop) (Wd : (Nat → Nat) → va_W) : Prop := ∀ sz : Nat, Met l y ws rm (va_Pc av (zCpre D g w0 sz)) (va_Qv post (fun ad t => va_P D vwCl (Wd ad) t.heap ∧ va_D (va_A w0 sz) (Wd ad)) (va_A w0 sz)) rm.cells rm.slots (va_A w0 sz)
theorem zCpre_blind {D : va_G} {g : zG} {w0 : va_W} {av : List Value} {sz : Nat} : FrameBlind (va_Pc av (zCpre D g w0 sz)) := fun a U g mk q => by
  obtain ⟨q0, q1, qP, qK, qD, qT⟩ := q
  exact ⟨q0, q1, qP, va_K.moved (u := U) (U := U.calling g mk a) (Vm.Alike.refl U.vm) qK, qD, qT.same rfl⟩
section ZENTERC
variable {l : Launch} {D : va_G} {g : zG} {y : MethodName} {rm : Room} {av : List Value} {w0 : va_W} {post : (Nat → Nat) → Prop} {Wd : (Nat → Nat) → va_W} {cc : ByteArray} {maxL : Nat}
theorem z_enter_c (hy : plainName y.cls = true) (hlen : (lg_sl av).length ≤ maxL)
    (body : ∀ (p : Program) (e : Env) (s : State) (m : MethodId) (below : List Frame) (meth : Method) (c : Code) (A : Nat → Prop) (ls : Array Slot) (Q : State → Prop), zCx p c cc s av.toArray y.cls m maxL A s.heap D g → zTb s → meth.name = y.name → va_P D vwCl w0 s.heap → va_D A w0 → va_S A s.heap s.heap [] → lv_has ls maxL (lv_args 0 av) →
      (∀ (H : Heap) (locs : List Loc) (pc : Nat) (ls : Array Slot) (ad : Nat → Nat), post ad → va_P D vwCl (Wd ad) H → va_D A (Wd ad) → va_S A s.heap H locs → decode cc pc = .ok (.return_, 1) → W p l e rm s m av.toArray below meth c H locs rm.cells rm.slots Q (F0 m pc ls [])) →
      W p l e rm s m av.toArray below meth c s.heap [] 0 0 Q (F0 m 0 ls [])) : zCt l D g y (Cond.code y cc maxL none :: zws) rm av w0 post Wd := by
  intro sz
  refine Met.ofW (cc := cc) (maxL := maxL) (ret := none) hy rfl ?_
  intro p e s m args below meth c s₁ B hml hv
  obtain ⟨rfl, hsz, hP, hK, hD0, hT⟩ := hv
  subst hsz
  have hx := B.exec
  have hb := B.bytes
  have hr := B.returns
  have hts := atoms_spec (ws := Cond.code y cc maxL none :: zws) B.pre
  have hown : s.vm.findClass y.cls = some m.cls := findClass_of_methodNamed B.named
  have hlocks := B.notSynchronized
  have hin : meth.name = y.name := (name_of_methodNamed B.named B.method).1
  have hD := hD0.self (sz := s.heap.size)
  have hl := lv_entry av (n := maxL) hlen
  rw [lg_entry_eq]
  generalize (lg_sl av ++ List.replicate (maxL - (lg_sl av).length) Slot.unset).toArray = ls at hl ⊢
  refine body p e s m below meth c (va_A w0 s.heap.size) ls _ ⟨hx, hb, hml, hown, fun w hw => hts w (List.mem_cons_of_mem _ hw), hK, fun q h => Or.inr h⟩ hT hin hP hD va_S.rf hl ?_
  intro H locs pc ls ad hp hP1 hD1 hS hdg
  exact W.vret hx hb hr (fun t ht hW => ⟨⟨ad, rfl, hp, by rw [ht]; exact hP1, hD1⟩, hS.F ht⟩) hS.2.2 hdg
end ZENTERC
