/-! ENTRY, RETURN, CALL WORDS, LONG COMPARISONS -/
abbrev zRm (d : Nat) : Room := { frames := d, cells := 0, slots := 0, locals := 45 * d }
def zel {α ρ γ : Type} (f : α → γ) (k : ρ → γ) : α ⊕ ρ → γ
  | .inl a => f a
  | .inr r => k r
theorem zel_l {α ρ γ : Type} (f : α → γ) (k : ρ → γ) (a : α) : zel f k (.inl a) = f a := rfl
theorem zel_r {α ρ γ : Type} (f : α → γ) (k : ρ → γ) (r : ρ) : zel f k (.inr r) = k r := rfl
/-- what holds at every place of a method's body -/
def zCx (p : Program) (c : Code) (cc : ByteArray) (s : State) (args : Array Value) (own : String) (m : MethodId) (nL : Nat) (A : Nat → Prop) (H0 : Heap) (D : va_G) (g : zG) : Prop := p.tables.exec = Jvm.exec ∧ c.code = cc ∧ c.maxLocals = nL ∧ s.vm.findClass own = some m.cls ∧ (∀ w ∈ zws, w.before args s = true) ∧ va_K D vwCl (zT g) s ∧ (∀ q, H0.size ≤ q → A q)
section ZENTER
variable {l : Launch} {D : va_G} {g : zG} {w : Nat} {ad : Nat → Nat} {y : MethodName} {rm : Room} {av : List Value} {σ σ' : zSt} {cc : ByteArray} {maxL : Nat}
theorem z_enter_i {ty : FieldType} {r : Int32} (hy : plainName y.cls = true) (hlen : (lg_sl av).length ≤ maxL)
    (body : ∀ (p : Program) (e : Env) (s : State) (m : MethodId) (below : List Frame) (meth : Method) (c : Code) (A : Nat → Prop) (ls : Array Slot) (Q : State → Prop), zCx p c cc s av.toArray y.cls m maxL A s.heap D g → zH D g w ad A s.heap σ s.heap [] → lv_has ls maxL (lv_args 0 av) →
      (∀ (H : Heap) (locs : List Loc) (pc : Nat) (ls : Array Slot), zH D g w ad A s.heap σ' H locs → narrow ty (.int r) = .int r → decode cc pc = .ok (.ireturn, 1) → W p l e rm s m av.toArray below meth c H locs 0 0 Q (F0 m pc ls [.int r])) →
      W p l e rm s m av.toArray below meth c s.heap [] 0 0 Q (F0 m 0 ls [])) : zMi l D g w ad y (Cond.code y cc maxL (some ty) :: zws) rm av σ r σ' := by
  intro sz
  refine Met.ofW (cc := cc) (maxL := maxL) (ret := some ty) hy rfl ?_
  intro p e s m args below meth c s₁ B hml hv
  obtain ⟨rfl, hsz, hP, hK, hD0⟩ := hv
  subst hsz
  have hx := B.exec
  have hb := B.bytes
  have hr := B.returns
  have hts := atoms_spec (ws := Cond.code y cc maxL (some ty) :: zws) B.pre
  have hown : s.vm.findClass y.cls = some m.cls := findClass_of_methodNamed B.named
  have hlocks := B.notSynchronized
  have hD := hD0.self (sz := s.heap.size)
  have hl := lv_entry av (n := maxL) hlen
  rw [lg_entry_eq]
  generalize (lg_sl av ++ List.replicate (maxL - (lg_sl av).length) Slot.unset).toArray = ls at hl ⊢
  refine body p e s m below meth c (va_A (zW g w ad σ) s.heap.size) ls _ ⟨hx, hb, hml, hown, fun w hw => hts w (List.mem_cons_of_mem _ hw), hK, fun q h => Or.inr h⟩ ⟨hP, hD, va_S.rf⟩ hl ?_
  intro H locs pc ls hw hn hdg
  exact W.zret hx hb hr hn (fun t ht hW => ⟨⟨r, σ', rfl, ⟨rfl, rfl⟩, by rw [zPost, ht]; exact hw.1⟩, hw.2.2.F ht⟩) hw.2.2.2.2 hdg
theorem z_enter_l {r : Int64} (hy : plainName y.cls = true) (hlen : (lg_sl av).length ≤ maxL)
    (body : ∀ (p : Program) (e : Env) (s : State) (m : MethodId) (below : List Frame) (meth : Method) (c : Code) (A : Nat → Prop) (ls : Array Slot) (Q : State → Prop), zCx p c cc s av.toArray y.cls m maxL A s.heap D g → zH D g w ad A s.heap σ s.heap [] → lv_has ls maxL (lv_args 0 av) →
      (∀ (H : Heap) (locs : List Loc) (pc : Nat) (ls : Array Slot), zH D g w ad A s.heap σ' H locs → decode cc pc = .ok (.lreturn, 1) → W p l e rm s m av.toArray below meth c H locs 0 0 Q (F0 m pc ls [.long r])) →
      W p l e rm s m av.toArray below meth c s.heap [] 0 0 Q (F0 m 0 ls [])) : zMl l D g w ad y (Cond.code y cc maxL (some .long) :: zws) rm av σ r σ' := by
  intro sz
  refine Met.ofW (cc := cc) (maxL := maxL) (ret := some .long) hy rfl ?_
  intro p e s m args below meth c s₁ B hml hv
  obtain ⟨rfl, hsz, hP, hK, hD0⟩ := hv
  subst hsz
  have hx := B.exec
  have hb := B.bytes
  have hr := B.returns
  have hts := atoms_spec (ws := Cond.code y cc maxL (some .long) :: zws) B.pre
  have hown : s.vm.findClass y.cls = some m.cls := findClass_of_methodNamed B.named
  have hlocks := B.notSynchronized
  have hD := hD0.self (sz := s.heap.size)
  have hl := lv_entry av (n := maxL) hlen
  rw [lg_entry_eq]
  generalize (lg_sl av ++ List.replicate (maxL - (lg_sl av).length) Slot.unset).toArray = ls at hl ⊢
  refine body p e s m below meth c (va_A (zW g w ad σ) s.heap.size) ls _ ⟨hx, hb, hml, hown, fun w hw => hts w (List.mem_cons_of_mem _ hw), hK, fun q h => Or.inr h⟩ ⟨hP, hD, va_S.rf⟩ hl ?_
  intro H locs pc ls hw hdg
  exact W.lret hx hb hr (fun t ht hW => ⟨⟨r, σ', rfl, ⟨rfl, rfl⟩, by rw [zPost, ht]; exact hw.1⟩, hw.2.2.F ht⟩) hw.2.2.2.2 hdg
theorem z_enter_v (hy : plainName y.cls = true) (hlen : (lg_sl av).length ≤ maxL)
    (body : ∀ (p : Program) (e : Env) (s : State) (m : MethodId) (below : List Frame) (meth : Method) (c : Code) (A : Nat → Prop) (ls : Array Slot) (Q : State → Prop), zCx p c cc s av.toArray y.cls m maxL A s.heap D g → zH D g w ad A s.heap σ s.heap [] → lv_has ls maxL (lv_args 0 av) →
      (∀ (H : Heap) (locs : List Loc) (pc : Nat) (ls : Array Slot), zH D g w ad A s.heap σ' H locs → decode cc pc = .ok (.return_, 1) → W p l e rm s m av.toArray below meth c H locs 0 0 Q (F0 m pc ls [])) →
      W p l e rm s m av.toArray below meth c s.heap [] 0 0 Q (F0 m 0 ls [])) : zMv l D g w ad y (Cond.code y cc maxL none :: zws) rm av σ σ' := by
  intro sz
  refine Met.ofW (cc := cc) (maxL := maxL) (ret := none) hy rfl ?_
  intro p e s m args below meth c s₁ B hml hv
  obtain ⟨rfl, hsz, hP, hK, hD0⟩ := hv
  subst hsz
  have hx := B.exec
  have hb := B.bytes
  have hr := B.returns
  have hts := atoms_spec (ws := Cond.code y cc maxL none :: zws) B.pre
  have hown : s.vm.findClass y.cls = some m.cls := findClass_of_methodNamed B.named
  have hlocks := B.notSynchronized
  have hD := hD0.self (sz := s.heap.size)
  have hl := lv_entry av (n := maxL) hlen
  rw [lg_entry_eq]
  generalize (lg_sl av ++ List.replicate (maxL - (lg_sl av).length) Slot.unset).toArray = ls at hl ⊢
  refine body p e s m below meth c (va_A (zW g w ad σ) s.heap.size) ls _ ⟨hx, hb, hml, hown, fun w hw => hts w (List.mem_cons_of_mem _ hw), hK, fun q h => Or.inr h⟩ ⟨hP, hD, va_S.rf⟩ hl ?_
  intro H locs pc ls hw hdg
  exact W.vret hx hb hr (fun t ht hW => ⟨⟨σ', rfl, rfl, by rw [zPost, ht]; exact hw.1⟩, hw.2.2.F ht⟩) hw.2.2.2.2 hdg
theorem z_enter_r {r : Nat} {rt : FieldType} (hy : plainName y.cls = true) (hlen : (lg_sl av).length ≤ maxL) (hrt : ∃ t, rt = .array t)
    (body : ∀ (p : Program) (e : Env) (s : State) (m : MethodId) (below : List Frame) (meth : Method) (c : Code) (A : Nat → Prop) (ls : Array Slot) (Q : State → Prop), zCx p c cc s av.toArray y.cls m maxL A s.heap D g → zH D g w ad A s.heap σ s.heap [] → lv_has ls maxL (lv_args 0 av) →
      (∀ (H : Heap) (locs : List Loc) (pc : Nat) (ls : Array Slot), zH D g w ad A s.heap σ' H locs → decode cc pc = .ok (.areturn, 1) → W p l e rm s m av.toArray below meth c H locs 0 0 Q (F0 m pc ls [.ref (ad r)])) →
      W p l e rm s m av.toArray below meth c s.heap [] 0 0 Q (F0 m 0 ls [])) : zMr l D g w ad y (Cond.code y cc maxL (some rt) :: zws) rm av σ r σ' := by
  intro sz
  refine Met.ofW (cc := cc) (maxL := maxL) (ret := some rt) hy rfl ?_
  intro p e s m args below meth c s₁ B hml hv
  obtain ⟨rfl, hsz, hP, hK, hD0⟩ := hv
  subst hsz
  have hx := B.exec
  have hb := B.bytes
  have hr := B.returns
  have hts := atoms_spec (ws := Cond.code y cc maxL (some rt) :: zws) B.pre
  have hown : s.vm.findClass y.cls = some m.cls := findClass_of_methodNamed B.named
  have hlocks := B.notSynchronized
  have hD := hD0.self (sz := s.heap.size)
  have hl := lv_entry av (n := maxL) hlen
  rw [lg_entry_eq]
  generalize (lg_sl av ++ List.replicate (maxL - (lg_sl av).length) Slot.unset).toArray = ls at hl ⊢
  refine body p e s m below meth c (va_A (zW g w ad σ) s.heap.size) ls _ ⟨hx, hb, hml, hown, fun w hw => hts w (List.mem_cons_of_mem _ hw), hK, fun q h => Or.inr h⟩ ⟨hP, hD, va_S.rf⟩ hl ?_
  intro H locs pc ls hw hdg
  exact W.aret hx hb hr (Or.inr hrt) (Or.inr ⟨_, rfl⟩) (fun t ht hW => ⟨⟨σ', ad r, rfl, rfl, rfl, by rw [zPost, ht]; exact hw.1⟩, hw.2.2.F ht⟩) hw.2.2.2.2 hdg
end ZENTER
section ZCW
variable {R : Room} {s : State} {args : Array Value} {own C : String} {index maxL : Nat} {y : MethodName} {bytes : ByteArray} {ret : Option FieldType} {rm : Room} {Ts : List Cond}
theorem zgoodC (hG : GoodIn Ts zws) (h5 : Cond.code y bytes maxL ret ∈ zws) : GoodIn Ts (Cond.code y bytes maxL ret :: zws) := fun w h => by
  rcases List.mem_cons.mp h with rfl | h
  · exact hG _ h5
  · exact hG _ h
theorem zcwV (n : Nat) (ht : ∀ w ∈ Ts, w.before args s = true) (hG : GoodIn Ts zws) (h1 : Cond.methodLink own index y ∈ zws) (h2 : Cond.instanceMethod y ∈ zws) (h3 : Cond.selects C y y ∈ zws) (h4 : Cond.initialized C ∈ zws) (h5 : Cond.code y bytes maxL ret ∈ zws) (hrc : rm.cells = 0) (hrs : rm.slots = 0)
    (hd : y.cls = C ∧ y.cls ≠ "java/lang/invoke/MethodHandle" ∧ y.cls ≠ "java/lang/invoke/VarHandle" ∧ (parseMethodDescriptor y.desc).map (fun d => d.parameters.length) = some n) (hR : rm.frames + 1 ≤ R.frames ∧ 8 + (maxL + 11) + rm.locals ≤ R.locals) :
    CallW R s args own C index y bytes maxL ret (Cond.code y bytes maxL ret :: zws) rm 0 0 n := by
  obtain ⟨hC, hd⟩ := hd
  subst hC
  have ok : ∀ w ∈ zws, w.before args s = true := fun w h => ht w (hG w h).1
  exact ⟨callB_of n ht (zgoodC hG h5) rfl hrc hrs (ok _ h4) (ok _ h1) hd hR, ok _ h2, ok _ h3⟩
theorem zcwS (n : Nat) (ht : ∀ w ∈ Ts, w.before args s = true) (hG : GoodIn Ts zws) (h1 : Cond.methodLink own index y ∈ zws) (h2 : Cond.static y ∈ zws) (h4 : Cond.initialized y.cls ∈ zws) (h5 : Cond.code y bytes maxL ret ∈ zws) (hrc : rm.cells = 0) (hrs : rm.slots = 0)
    (hd : y.cls ≠ "java/lang/invoke/MethodHandle" ∧ y.cls ≠ "java/lang/invoke/VarHandle" ∧ (parseMethodDescriptor y.desc).map (fun d => d.parameters.length) = some n) (hR : rm.frames + 1 ≤ R.frames ∧ 8 + (maxL + 11) + rm.locals ≤ R.locals) :
    CallB R s args own index y bytes maxL ret (Cond.code y bytes maxL ret :: zws) rm 0 0 n ∧ (Cond.static y).before args s = true := by
  have ok : ∀ w ∈ zws, w.before args s = true := fun w h => ht w (hG w h).1
  exact ⟨callB_of n ht (zgoodC hG h5) rfl hrc hrs (ok _ h4) (ok _ h1) hd hR, ok _ h2⟩
end ZCW
section ZLC
variable {p : Program} {l : Launch} {e : Env} {R : Room} {s : State} {m : MethodId} {args : Array Value} {below : List Frame} {meth : Method} {c : Code} {H : Heap} {locs : List Loc} {cells slots : Nat} {Q : State → Prop}
variable {cc : ByteArray} {pc : Nat} {ls : Array Slot} {rest : List Value}
theorem zlc (x y : Int64) : (y < x ∧ lg_cmp x y = 1) ∨ (x = y ∧ lg_cmp x y = 0) ∨ (x < y ∧ lg_cmp x y = -1) := by
  by_cases h1 : y < x
  · exact Or.inl ⟨h1, by simp [lg_cmp, h1]⟩
  · by_cases h2 : x = y
    · exact Or.inr (Or.inl ⟨h2, by subst h2; simp [lg_cmp]⟩)
    · refine Or.inr (Or.inr ⟨?_, by simp [lg_cmp, h1, h2]⟩)
      rcases Int64.le_iff_lt_or_eq.mp (Int64.not_lt.mp h1) with h | h
      · exact h
      · exact absurd h h2
theorem zlc_eq {x y : Int64} : lg_cmp x y = 0 ↔ x = y := by
  rcases zlc x y with ⟨h, e⟩ | ⟨h, e⟩ | ⟨h, e⟩
  · rw [e]; exact ⟨fun q => absurd q (by decide), fun q => absurd (q ▸ h) (Int64.lt_irrefl)⟩
  · rw [e]; exact ⟨fun _ => h, fun _ => rfl⟩
  · rw [e]; exact ⟨fun q => absurd q (by decide), fun q => absurd (q ▸ h) (Int64.lt_irrefl)⟩
theorem zlc_le {x y : Int64} : lg_cmp x y ≤ 0 ↔ x ≤ y := by
  rcases zlc x y with ⟨h, e⟩ | ⟨h, e⟩ | ⟨h, e⟩
  · rw [e]; exact ⟨fun q => absurd q (by decide), fun q => absurd h (Int64.not_lt.mpr q)⟩
  · rw [e]; exact ⟨fun _ => Int64.le_of_eq h, fun _ => by decide⟩
  · rw [e]; exact ⟨fun _ => Int64.le_of_lt h, fun _ => by decide⟩
/-- lcmp and ifeq -/
theorem z_lceq (hexec : p.tables.exec = Jvm.exec) (hb : c.code = cc) {x y : Int64} {off : Int} {tgt : Nat} (hd : decode cc pc = .ok (.lcmp, 1)) (hdg : decode cc (pc + 1) = .ok (.ifCond .eq off, 3)) (ht : ((pc + 1 : Nat) : Int) + off = (tgt : Int))
    (kt : x = y → W p l e R s m args below meth c H locs cells slots Q (F0 m tgt ls rest)) (kf : ¬ x = y → W p l e R s m args below meth c H locs cells slots Q (F0 m (pc + 4) ls rest)) : W p l e R s m args below meth c H locs cells slots Q (F0 m pc ls (.long y :: .long x :: rest)) :=
  W.lcmp hexec hb hd (lv_if_eq (tgt := tgt) hexec hb hdg ht (fun h => kt (zlc_eq.mp h)) (fun h => kf (fun q => h (zlc_eq.mpr q))))
/-- lcmp and ifne -/
theorem z_lcne (hexec : p.tables.exec = Jvm.exec) (hb : c.code = cc) {x y : Int64} {off : Int} {tgt : Nat} (hd : decode cc pc = .ok (.lcmp, 1)) (hdg : decode cc (pc + 1) = .ok (.ifCond .ne off, 3)) (ht : ((pc + 1 : Nat) : Int) + off = (tgt : Int))
    (kt : ¬ x = y → W p l e R s m args below meth c H locs cells slots Q (F0 m tgt ls rest)) (kf : x = y → W p l e R s m args below meth c H locs cells slots Q (F0 m (pc + 4) ls rest)) : W p l e R s m args below meth c H locs cells slots Q (F0 m pc ls (.long y :: .long x :: rest)) :=
  W.lcmp hexec hb hd (lv_if_ne (tgt := tgt) hexec hb hdg ht (fun h => kt (fun q => h (zlc_eq.mpr q))) (fun h => kf (zlc_eq.mp h)))
/-- lcmp and ifle -/
theorem z_lcle (hexec : p.tables.exec = Jvm.exec) (hb : c.code = cc) {x y : Int64} {off : Int} {tgt : Nat} (hd : decode cc pc = .ok (.lcmp, 1)) (hdg : decode cc (pc + 1) = .ok (.ifCond .le off, 3)) (ht : ((pc + 1 : Nat) : Int) + off = (tgt : Int))
    (kt : x ≤ y → W p l e R s m args below meth c H locs cells slots Q (F0 m tgt ls rest)) (kf : ¬ x ≤ y → W p l e R s m args below meth c H locs cells slots Q (F0 m (pc + 4) ls rest)) : W p l e R s m args below meth c H locs cells slots Q (F0 m pc ls (.long y :: .long x :: rest)) :=
  W.lcmp hexec hb hd (lv_if_le (tgt := tgt) hexec hb hdg ht (fun h => kt (zlc_le.mp h)) (fun h => kf (fun q => h (zlc_le.mpr q))))
end ZLC
theorem zb0 : narrow .boolean (.int 0) = .int 0 := rfl
theorem zb1 : narrow .boolean (.int 1) = .int 1 := rfl
theorem zO0_0 : zO 0 0 RX10 := ⟨by decide, by decide, TX10, 11, rfl⟩
theorem zia_X10 : ∀ w ∈ u_ws RX10 TX10 11, w ∈ lw_tbl := by decide +kernel
theorem zib_X10 : ∀ w ∈ u_ws RX10 TX10 11, goodWord w = true := by decide +kernel
theorem zin_X10 : ∀ w ∈ u_ws RX10 TX10 11, w ∈ zws := fun w h => List.mem_filter.mpr ⟨zia_X10 w h, zib_X10 w h⟩
theorem zF0_0_0 : zF 0 0 0 (3 + 1) RX10 TX10 11 "ToldOver" "sheets" "LToldOver$Sheets;" true := ⟨by decide, by decide, rfl, rfl, by decide, rfl⟩
theorem zY0_0_0 : tyX10 0 = .object "ToldOver$Sheets" := rfl
theorem zF0_0_1 : zF 0 0 1 (3 + 2) RX10 TX10 11 "ToldOver" "reader" "LToldOver$Reader;" true := ⟨by decide, by decide, rfl, rfl, by decide, rfl⟩
theorem zY0_0_1 : tyX10 1 = .object "ToldOver$Reader" := rfl
theorem zF0_0_2 : zF 0 0 2 (3 + 3) RX10 TX10 11 "ToldOver" "speech" "LToldOver$Tongues;" true := ⟨by decide, by decide, rfl, rfl, by decide, rfl⟩
theorem zY0_0_2 : tyX10 2 = .object "ToldOver$Tongues" := rfl
theorem zF0_0_3 : zF 0 0 3 (3 + 4) RX10 TX10 11 "ToldOver" "crew" "LToldOver$Crew;" true := ⟨by decide, by decide, rfl, rfl, by decide, rfl⟩
theorem zY0_0_3 : tyX10 3 = .object "ToldOver$Crew" := rfl
theorem zF0_0_4 : zF 0 0 4 (3 + 5) RX10 TX10 11 "ToldOver" "stand" "LToldOver$Witness;" true := ⟨by decide, by decide, rfl, rfl, by decide, rfl⟩
theorem zY0_0_4 : tyX10 4 = .object "ToldOver$Witness" := rfl
theorem zF0_0_5 : zF 0 0 5 (3 + 6) RX10 TX10 11 "ToldOver" "hearing" "LToldOver$Hearing;" true := ⟨by decide, by decide, rfl, rfl, by decide, rfl⟩
theorem zY0_0_5 : tyX10 5 = .object "ToldOver$Hearing" := rfl
theorem zF0_0_6 : zF 0 0 6 (3 + 7) RX10 TX10 11 "ToldOver" "chain" "LToldOver$Chain;" true := ⟨by decide, by decide, rfl, rfl, by decide, rfl⟩
theorem zY0_0_6 : tyX10 6 = .object "ToldOver$Chain" := rfl
theorem zF0_0_7 : zF 0 0 7 (3 + 8) RX10 TX10 11 "ToldOver" "protocol" "LToldOver$Protocol;" true := ⟨by decide, by decide, rfl, rfl, by decide, rfl⟩
theorem zY0_0_7 : tyX10 7 = .object "ToldOver$Protocol" := rfl
theorem zF0_0_8 : zF 0 0 8 (3 + 9) RX10 TX10 11 "ToldOver" "roster" "LToldOver$Shifts;" true := ⟨by decide, by decide, rfl, rfl, by decide, rfl⟩
theorem zY0_0_8 : tyX10 8 = .object "ToldOver$Shifts" := rfl
theorem zF0_0_9 : zF 0 0 9 (3 + 10) RX10 TX10 11 "ToldOver" "cabin" "LToldOver$Booth;" true := ⟨by decide, by decide, rfl, rfl, by decide, rfl⟩
theorem zY0_0_9 : tyX10 9 = .object "ToldOver$Booth" := rfl
theorem zF0_0_10 : zF 0 0 10 0 RX10 TX10 11 "ToldOver" "latestFault" "I" false := ⟨by decide, by decide, rfl, rfl, by decide, rfl⟩
theorem zY0_0_10 : tyX10 10 = .int := rfl
theorem zO0_1 : zO 0 1 RX6 := ⟨by decide, by decide, TX6, 3, rfl⟩
theorem zia_X6 : ∀ w ∈ u_ws RX6 TX6 3, w ∈ lw_tbl := by decide +kernel
theorem zib_X6 : ∀ w ∈ u_ws RX6 TX6 3, goodWord w = true := by decide +kernel
theorem zin_X6 : ∀ w ∈ u_ws RX6 TX6 3, w ∈ zws := fun w h => List.mem_filter.mpr ⟨zia_X6 w h, zib_X6 w h⟩
theorem zF0_1_0 : zF 0 1 0 (3 + 11) RX6 TX6 3 "ToldOver$Sheets" "rows" "[[I" true := ⟨by decide, by decide, rfl, rfl, by decide, rfl⟩
theorem zY0_1_0 : tyX6 0 = .array (.array .int) := rfl
theorem zF0_1_1 : zF 0 1 1 (3 + 16) RX6 TX6 3 "ToldOver$Sheets" "sorts" "[I" true := ⟨by decide, by decide, rfl, rfl, by decide, rfl⟩
theorem zY0_1_1 : tyX6 1 = .array .int := rfl
theorem zF0_1_2 : zF 0 1 2 (3 + 17) RX6 TX6 3 "ToldOver$Sheets" "lengths" "[I" true := ⟨by decide, by decide, rfl, rfl, by decide, rfl⟩
theorem zY0_1_2 : tyX6 2 = .array .int := rfl
theorem zO0_2 : zO 0 2 RX5 := ⟨by decide, by decide, TX5, 7, rfl⟩
theorem zia_X5 : ∀ w ∈ u_ws RX5 TX5 7, w ∈ lw_tbl := by decide +kernel
theorem zib_X5 : ∀ w ∈ u_ws RX5 TX5 7, goodWord w = true := by decide +kernel
theorem zin_X5 : ∀ w ∈ u_ws RX5 TX5 7, w ∈ zws := fun w h => List.mem_filter.mpr ⟨zia_X5 w h, zib_X5 w h⟩
theorem zF0_2_0 : zF 0 2 0 (3 + 18) RX5 TX5 7 "ToldOver$Reader" "digits" "[[I" true := ⟨by decide, by decide, rfl, rfl, by decide, rfl⟩
theorem zY0_2_0 : tyX5 0 = .array (.array .int) := rfl
theorem zF0_2_1 : zF 0 2 1 0 RX5 TX5 7 "ToldOver$Reader" "words" "I" false := ⟨by decide, by decide, rfl, rfl, by decide, rfl⟩
theorem zY0_2_1 : tyX5 1 = .int := rfl
theorem zF0_2_2 : zF 0 2 2 0 RX5 TX5 7 "ToldOver$Reader" "please" "I" false := ⟨by decide, by decide, rfl, rfl, by decide, rfl⟩
theorem zY0_2_2 : tyX5 2 = .int := rfl
theorem zF0_2_3 : zF 0 2 3 2 RX5 TX5 7 "ToldOver$Reader" "row" "[I" false := ⟨by decide, by decide, rfl, rfl, by decide, rfl⟩
theorem zY0_2_3 : tyX5 3 = .array .int := rfl
theorem zF0_2_4 : zF 0 2 4 0 RX5 TX5 7 "ToldOver$Reader" "from" "I" false := ⟨by decide, by decide, rfl, rfl, by decide, rfl⟩
theorem zY0_2_4 : tyX5 4 = .int := rfl
theorem zF0_2_5 : zF 0 2 5 0 RX5 TX5 7 "ToldOver$Reader" "at" "I" false := ⟨by decide, by decide, rfl, rfl, by decide, rfl⟩
theorem zY0_2_5 : tyX5 5 = .int := rfl
theorem zF0_2_6 : zF 0 2 6 0 RX5 TX5 7 "ToldOver$Reader" "end" "I" false := ⟨by decide, by decide, rfl, rfl, by decide, rfl⟩
theorem zY0_2_6 : tyX5 6 = .int := rfl
theorem zO0_3 : zO 0 3 RX8 := ⟨by decide, by decide, TX8, 3, rfl⟩
theorem zia_X8 : ∀ w ∈ u_ws RX8 TX8 3, w ∈ lw_tbl := by decide +kernel
theorem zib_X8 : ∀ w ∈ u_ws RX8 TX8 3, goodWord w = true := by decide +kernel
theorem zin_X8 : ∀ w ∈ u_ws RX8 TX8 3, w ∈ zws := fun w h => List.mem_filter.mpr ⟨zia_X8 w h, zib_X8 w h⟩
theorem zF0_3_0 : zF 0 3 0 0 RX8 TX8 3 "ToldOver$Tongues" "words" "I" false := ⟨by decide, by decide, rfl, rfl, by decide, rfl⟩
theorem zY0_3_0 : tyX8 0 = .int := rfl
theorem zF0_3_1 : zF 0 3 1 (3 + 32) RX8 TX8 3 "ToldOver$Tongues" "told" "[[I" true := ⟨by decide, by decide, rfl, rfl, by decide, rfl⟩
theorem zY0_3_1 : tyX8 1 = .array (.array .int) := rfl
theorem zF0_3_2 : zF 0 3 2 (3 + 45) RX8 TX8 3 "ToldOver$Tongues" "meanings" "[I" true := ⟨by decide, by decide, rfl, rfl, by decide, rfl⟩
theorem zY0_3_2 : tyX8 2 = .array .int := rfl
theorem zO0_4 : zO 0 4 RX2 := ⟨by decide, by decide, TX2, 4, rfl⟩
theorem zia_X2 : ∀ w ∈ u_ws RX2 TX2 4, w ∈ lw_tbl := by decide +kernel
theorem zib_X2 : ∀ w ∈ u_ws RX2 TX2 4, goodWord w = true := by decide +kernel
theorem zin_X2 : ∀ w ∈ u_ws RX2 TX2 4, w ∈ zws := fun w h => List.mem_filter.mpr ⟨zia_X2 w h, zib_X2 w h⟩
theorem zF0_4_0 : zF 0 4 0 (3 + 46) RX2 TX2 4 "ToldOver$Crew" "kinds" "[I" true := ⟨by decide, by decide, rfl, rfl, by decide, rfl⟩
theorem zY0_4_0 : tyX2 0 = .array .int := rfl
theorem zF0_4_1 : zF 0 4 1 (3 + 47) RX2 TX2 4 "ToldOver$Crew" "tired" "[I" true := ⟨by decide, by decide, rfl, rfl, by decide, rfl⟩
theorem zY0_4_1 : tyX2 1 = .array .int := rfl
theorem zF0_4_2 : zF 0 4 2 0 RX2 TX2 4 "ToldOver$Crew" "count" "I" false := ⟨by decide, by decide, rfl, rfl, by decide, rfl⟩
theorem zY0_4_2 : tyX2 2 = .int := rfl
theorem zF0_4_3 : zF 0 4 3 0 RX2 TX2 4 "ToldOver$Crew" "marks" "I" false := ⟨by decide, by decide, rfl, rfl, by decide, rfl⟩
theorem zY0_4_3 : tyX2 3 = .int := rfl
theorem zO0_5 : zO 0 5 RX9 := ⟨by decide, by decide, TX9, 3, rfl⟩
theorem zia_X9 : ∀ w ∈ u_ws RX9 TX9 3, w ∈ lw_tbl := by decide +kernel
theorem zib_X9 : ∀ w ∈ u_ws RX9 TX9 3, goodWord w = true := by decide +kernel
theorem zin_X9 : ∀ w ∈ u_ws RX9 TX9 3, w ∈ zws := fun w h => List.mem_filter.mpr ⟨zia_X9 w h, zib_X9 w h⟩
theorem zF0_5_0 : zF 0 5 0 (3 + 48) RX9 TX9 3 "ToldOver$Witness" "times" "[[I" true := ⟨by decide, by decide, rfl, rfl, by decide, rfl⟩
theorem zY0_5_0 : tyX9 0 = .array (.array .int) := rfl
theorem zF0_5_1 : zF 0 5 1 0 RX9 TX9 3 "ToldOver$Witness" "present" "Z" false := ⟨by decide, by decide, rfl, rfl, by decide, rfl⟩
theorem zY0_5_1 : tyX9 1 = .boolean := rfl
theorem zF0_5_2 : zF 0 5 2 0 RX9 TX9 3 "ToldOver$Witness" "please" "I" false := ⟨by decide, by decide, rfl, rfl, by decide, rfl⟩
theorem zY0_5_2 : tyX9 2 = .int := rfl
theorem zO0_6 : zO 0 6 RX3 := ⟨by decide, by decide, TX3, 4, rfl⟩
theorem zia_X3 : ∀ w ∈ u_ws RX3 TX3 4, w ∈ lw_tbl := by decide +kernel
theorem zib_X3 : ∀ w ∈ u_ws RX3 TX3 4, goodWord w = true := by decide +kernel
theorem zin_X3 : ∀ w ∈ u_ws RX3 TX3 4, w ∈ zws := fun w h => List.mem_filter.mpr ⟨zia_X3 w h, zib_X3 w h⟩
theorem zF0_6_0 : zF 0 6 0 (3 + 3) RX3 TX3 4 "ToldOver$Hearing" "speech" "LToldOver$Tongues;" true := ⟨by decide, by decide, rfl, rfl, by decide, rfl⟩
theorem zY0_6_0 : tyX3 0 = .object "ToldOver$Tongues" := rfl
theorem zF0_6_1 : zF 0 6 1 (3 + 5) RX3 TX3 4 "ToldOver$Hearing" "stand" "LToldOver$Witness;" true := ⟨by decide, by decide, rfl, rfl, by decide, rfl⟩
theorem zY0_6_1 : tyX3 1 = .object "ToldOver$Witness" := rfl
theorem zF0_6_2 : zF 0 6 2 (3 + 55) RX3 TX3 4 "ToldOver$Hearing" "there" "[[I" true := ⟨by decide, by decide, rfl, rfl, by decide, rfl⟩
theorem zY0_6_2 : tyX3 2 = .array (.array .int) := rfl
theorem zF0_6_3 : zF 0 6 3 (3 + 62) RX3 TX3 4 "ToldOver$Hearing" "home" "[[I" true := ⟨by decide, by decide, rfl, rfl, by decide, rfl⟩
theorem zY0_6_3 : tyX3 3 = .array (.array .int) := rfl
theorem zO0_7 : zO 0 7 RX1 := ⟨by decide, by decide, TX1, 4, rfl⟩
theorem zia_X1 : ∀ w ∈ u_ws RX1 TX1 4, w ∈ lw_tbl := by decide +kernel
theorem zib_X1 : ∀ w ∈ u_ws RX1 TX1 4, goodWord w = true := by decide +kernel
theorem zin_X1 : ∀ w ∈ u_ws RX1 TX1 4, w ∈ zws := fun w h => List.mem_filter.mpr ⟨zia_X1 w h, zib_X1 w h⟩
theorem zF0_7_0 : zF 0 7 0 1 RX1 TX1 4 "ToldOver$Chain" "whole" "J" false := ⟨by decide, by decide, rfl, rfl, by decide, rfl⟩
theorem zY0_7_0 : tyX1 0 = .long := rfl
theorem zF0_7_1 : zF 0 7 1 2 RX1 TX1 4 "ToldOver$Chain" "now" "[J" false := ⟨by decide, by decide, rfl, rfl, by decide, rfl⟩
theorem zY0_7_1 : tyX1 1 = .array .long := rfl
theorem zF0_7_2 : zF 0 7 2 2 RX1 TX1 4 "ToldOver$Chain" "next" "[J" false := ⟨by decide, by decide, rfl, rfl, by decide, rfl⟩
theorem zY0_7_2 : tyX1 2 = .array .long := rfl
theorem zF0_7_3 : zF 0 7 3 (3 + 71) RX1 TX1 4 "ToldOver$Chain" "carried" "[I" true := ⟨by decide, by decide, rfl, rfl, by decide, rfl⟩
theorem zY0_7_3 : tyX1 3 = .array .int := rfl
theorem zO0_8 : zO 0 8 RX4 := ⟨by decide, by decide, TX4, 4, rfl⟩
theorem zia_X4 : ∀ w ∈ u_ws RX4 TX4 4, w ∈ lw_tbl := by decide +kernel
theorem zib_X4 : ∀ w ∈ u_ws RX4 TX4 4, goodWord w = true := by decide +kernel
theorem zin_X4 : ∀ w ∈ u_ws RX4 TX4 4, w ∈ zws := fun w h => List.mem_filter.mpr ⟨zia_X4 w h, zib_X4 w h⟩
theorem zF0_8_0 : zF 0 8 0 (3 + 72) RX4 TX4 4 "ToldOver$Protocol" "lines" "[[I" true := ⟨by decide, by decide, rfl, rfl, by decide, rfl⟩
theorem zY0_8_0 : tyX4 0 = .array (.array .int) := rfl
theorem zF0_8_1 : zF 0 8 1 0 RX4 TX4 4 "ToldOver$Protocol" "count" "I" false := ⟨by decide, by decide, rfl, rfl, by decide, rfl⟩
theorem zY0_8_1 : tyX4 1 = .int := rfl
theorem zF0_8_2 : zF 0 8 2 1 RX4 TX4 4 "ToldOver$Protocol" "whole" "J" false := ⟨by decide, by decide, rfl, rfl, by decide, rfl⟩
theorem zY0_8_2 : tyX4 2 = .long := rfl
theorem zF0_8_3 : zF 0 8 3 (3 + 79) RX4 TX4 4 "ToldOver$Protocol" "trueOnes" "[J" true := ⟨by decide, by decide, rfl, rfl, by decide, rfl⟩
theorem zY0_8_3 : tyX4 3 = .array .long := rfl
theorem zO0_9 : zO 0 9 RX7 := ⟨by decide, by decide, TX7, 4, rfl⟩
theorem zia_X7 : ∀ w ∈ u_ws RX7 TX7 4, w ∈ lw_tbl := by decide +kernel
theorem zib_X7 : ∀ w ∈ u_ws RX7 TX7 4, goodWord w = true := by decide +kernel
theorem zin_X7 : ∀ w ∈ u_ws RX7 TX7 4, w ∈ zws := fun w h => List.mem_filter.mpr ⟨zia_X7 w h, zib_X7 w h⟩
theorem zF0_9_0 : zF 0 9 0 2 RX7 TX7 4 "ToldOver$Shifts" "now" "[J" false := ⟨by decide, by decide, rfl, rfl, by decide, rfl⟩
theorem zY0_9_0 : tyX7 0 = .array .long := rfl
theorem zF0_9_1 : zF 0 9 1 2 RX7 TX7 4 "ToldOver$Shifts" "next" "[J" false := ⟨by decide, by decide, rfl, rfl, by decide, rfl⟩
theorem zY0_9_1 : tyX7 1 = .array .long := rfl
theorem zF0_9_2 : zF 0 9 2 0 RX7 TX7 4 "ToldOver$Shifts" "plannedFor" "I" false := ⟨by decide, by decide, rfl, rfl, by decide, rfl⟩
theorem zY0_9_2 : tyX7 2 = .int := rfl
theorem zF0_9_3 : zF 0 9 3 1 RX7 TX7 4 "ToldOver$Shifts" "planned" "J" false := ⟨by decide, by decide, rfl, rfl, by decide, rfl⟩
theorem zY0_9_3 : tyX7 3 = .long := rfl
theorem zO0_10 : zO 0 10 RX0 := ⟨by decide, by decide, TX0, 3, rfl⟩
theorem zia_X0 : ∀ w ∈ u_ws RX0 TX0 3, w ∈ lw_tbl := by decide +kernel
theorem zib_X0 : ∀ w ∈ u_ws RX0 TX0 3, goodWord w = true := by decide +kernel
theorem zin_X0 : ∀ w ∈ u_ws RX0 TX0 3, w ∈ zws := fun w h => List.mem_filter.mpr ⟨zia_X0 w h, zib_X0 w h⟩
theorem zF0_10_0 : zF 0 10 0 0 RX0 TX0 3 "ToldOver$Booth" "end" "I" false := ⟨by decide, by decide, rfl, rfl, by decide, rfl⟩
theorem zY0_10_0 : tyX0 0 = .int := rfl
theorem zF0_10_1 : zF 0 10 1 0 RX0 TX0 3 "ToldOver$Booth" "held" "I" false := ⟨by decide, by decide, rfl, rfl, by decide, rfl⟩
theorem zY0_10_1 : tyX0 1 = .int := rfl
theorem zF0_10_2 : zF 0 10 2 0 RX0 TX0 3 "ToldOver$Booth" "behind" "I" false := ⟨by decide, by decide, rfl, rfl, by decide, rfl⟩
theorem zY0_10_2 : tyX0 2 = .int := rfl
theorem zO1_0 : zO 1 0 RX11 := ⟨by decide, by decide, TX11, 28, rfl⟩
theorem zia_X11 : ∀ w ∈ u_ws RX11 TX11 28, w ∈ lw_tbl := by decide +kernel
theorem zib_X11 : ∀ w ∈ u_ws RX11 TX11 28, goodWord w = true := by decide +kernel
theorem zin_X11 : ∀ w ∈ u_ws RX11 TX11 28, w ∈ zws := fun w h => List.mem_filter.mpr ⟨zia_X11 w h, zib_X11 w h⟩
theorem zF1_0_0 : zF 1 0 0 0 RX11 TX11 28 "ToldOverModel" "fault" "I" false := ⟨by decide, by decide, rfl, rfl, by decide, rfl⟩
theorem zY1_0_0 : tyX11 0 = .int := rfl
theorem zF1_0_1 : zF 1 0 1 0 RX11 TX11 28 "ToldOverModel" "trace" "I" false := ⟨by decide, by decide, rfl, rfl, by decide, rfl⟩
theorem zY1_0_1 : tyX11 1 = .int := rfl
theorem zF1_0_2 : zF 1 0 2 (3 + 1) RX11 TX11 28 "ToldOverModel" "sorts" "[I" true := ⟨by decide, by decide, rfl, rfl, by decide, rfl⟩
theorem zY1_0_2 : tyX11 2 = .array .int := rfl
theorem zF1_0_3 : zF 1 0 3 (3 + 2) RX11 TX11 28 "ToldOverModel" "sheetLong" "[I" true := ⟨by decide, by decide, rfl, rfl, by decide, rfl⟩
theorem zY1_0_3 : tyX11 3 = .array .int := rfl
theorem zF1_0_4 : zF 1 0 4 (3 + 3) RX11 TX11 28 "ToldOverModel" "cells" "[I" true := ⟨by decide, by decide, rfl, rfl, by decide, rfl⟩
theorem zY1_0_4 : tyX11 4 = .array .int := rfl
theorem zF1_0_5 : zF 1 0 5 0 RX11 TX11 28 "ToldOverModel" "words" "I" false := ⟨by decide, by decide, rfl, rfl, by decide, rfl⟩
theorem zY1_0_5 : tyX11 5 = .int := rfl
theorem zF1_0_6 : zF 1 0 6 (3 + 4) RX11 TX11 28 "ToldOverModel" "table" "[I" true := ⟨by decide, by decide, rfl, rfl, by decide, rfl⟩
theorem zY1_0_6 : tyX11 6 = .array .int := rfl
theorem zF1_0_7 : zF 1 0 7 0 RX11 TX11 28 "ToldOverModel" "at" "I" false := ⟨by decide, by decide, rfl, rfl, by decide, rfl⟩
theorem zY1_0_7 : tyX11 7 = .int := rfl
theorem zF1_0_8 : zF 1 0 8 0 RX11 TX11 28 "ToldOverModel" "readWords" "I" false := ⟨by decide, by decide, rfl, rfl, by decide, rfl⟩
theorem zY1_0_8 : tyX11 8 = .int := rfl
theorem zF1_0_9 : zF 1 0 9 0 RX11 TX11 28 "ToldOverModel" "readPlease" "I" false := ⟨by decide, by decide, rfl, rfl, by decide, rfl⟩
theorem zY1_0_9 : tyX11 9 = .int := rfl
theorem zF1_0_10 : zF 1 0 10 (3 + 5) RX11 TX11 28 "ToldOverModel" "readTable" "[I" true := ⟨by decide, by decide, rfl, rfl, by decide, rfl⟩
theorem zY1_0_10 : tyX11 10 = .array .int := rfl
theorem zF1_0_11 : zF 1 0 11 0 RX11 TX11 28 "ToldOverModel" "interpreters" "I" false := ⟨by decide, by decide, rfl, rfl, by decide, rfl⟩
theorem zY1_0_11 : tyX11 11 = .int := rfl
theorem zF1_0_12 : zF 1 0 12 (3 + 6) RX11 TX11 28 "ToldOverModel" "kinds" "[I" true := ⟨by decide, by decide, rfl, rfl, by decide, rfl⟩
theorem zY1_0_12 : tyX11 12 = .array .int := rfl
theorem zF1_0_13 : zF 1 0 13 (3 + 7) RX11 TX11 28 "ToldOverModel" "tired" "[I" true := ⟨by decide, by decide, rfl, rfl, by decide, rfl⟩
theorem zY1_0_13 : tyX11 13 = .array .int := rfl
theorem zF1_0_14 : zF 1 0 14 (3 + 8) RX11 TX11 28 "ToldOverModel" "spread" "[J" true := ⟨by decide, by decide, rfl, rfl, by decide, rfl⟩
theorem zY1_0_14 : tyX11 14 = .array .long := rfl
theorem zF1_0_15 : zF 1 0 15 (3 + 9) RX11 TX11 28 "ToldOverModel" "spreadOn" "[J" true := ⟨by decide, by decide, rfl, rfl, by decide, rfl⟩
theorem zY1_0_15 : tyX11 15 = .array .long := rfl
theorem zF1_0_16 : zF 1 0 16 0 RX11 TX11 28 "ToldOverModel" "isWitness" "Z" false := ⟨by decide, by decide, rfl, rfl, by decide, rfl⟩
theorem zY1_0_16 : tyX11 16 = .boolean := rfl
theorem zF1_0_17 : zF 1 0 17 0 RX11 TX11 28 "ToldOverModel" "please" "I" false := ⟨by decide, by decide, rfl, rfl, by decide, rfl⟩
theorem zY1_0_17 : tyX11 17 = .int := rfl
theorem zF1_0_18 : zF 1 0 18 (3 + 10) RX11 TX11 28 "ToldOverModel" "speech" "[I" true := ⟨by decide, by decide, rfl, rfl, by decide, rfl⟩
theorem zY1_0_18 : tyX11 18 = .array .int := rfl
theorem zF1_0_19 : zF 1 0 19 0 RX11 TX11 28 "ToldOverModel" "turns" "I" false := ⟨by decide, by decide, rfl, rfl, by decide, rfl⟩
theorem zY1_0_19 : tyX11 19 = .int := rfl
theorem zF1_0_20 : zF 1 0 20 (3 + 11) RX11 TX11 28 "ToldOverModel" "turnBy" "[I" true := ⟨by decide, by decide, rfl, rfl, by decide, rfl⟩
theorem zY1_0_20 : tyX11 20 = .array .int := rfl
theorem zF1_0_21 : zF 1 0 21 (3 + 12) RX11 TX11 28 "ToldOverModel" "turnWord" "[I" true := ⟨by decide, by decide, rfl, rfl, by decide, rfl⟩
theorem zY1_0_21 : tyX11 21 = .array .int := rfl
theorem zF1_0_22 : zF 1 0 22 (3 + 13) RX11 TX11 28 "ToldOverModel" "turnHeard" "[I" true := ⟨by decide, by decide, rfl, rfl, by decide, rfl⟩
theorem zY1_0_22 : tyX11 22 = .array .int := rfl
theorem zF1_0_23 : zF 1 0 23 (3 + 14) RX11 TX11 28 "ToldOverModel" "turnStake" "[I" true := ⟨by decide, by decide, rfl, rfl, by decide, rfl⟩
theorem zY1_0_23 : tyX11 23 = .array .int := rfl
theorem zF1_0_24 : zF 1 0 24 (3 + 15) RX11 TX11 28 "ToldOverModel" "turnMinutes" "[I" true := ⟨by decide, by decide, rfl, rfl, by decide, rfl⟩
theorem zY1_0_24 : tyX11 24 = .array .int := rfl
theorem zF1_0_25 : zF 1 0 25 (3 + 16) RX11 TX11 28 "ToldOverModel" "trues" "[J" true := ⟨by decide, by decide, rfl, rfl, by decide, rfl⟩
theorem zY1_0_25 : tyX11 25 = .array .long := rfl
theorem zF1_0_26 : zF 1 0 26 (3 + 17) RX11 TX11 28 "ToldOverModel" "least" "[I" true := ⟨by decide, by decide, rfl, rfl, by decide, rfl⟩
theorem zY1_0_26 : tyX11 26 = .array .int := rfl
theorem zF1_0_27 : zF 1 0 27 (3 + 18) RX11 TX11 28 "ToldOverModel" "saidIn" "[I" true := ⟨by decide, by decide, rfl, rfl, by decide, rfl⟩
theorem zY1_0_27 : tyX11 27 = .array .int := rfl
