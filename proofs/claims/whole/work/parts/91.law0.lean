/-! THE LAW: two worlds side by side, calls that leave the other one -/
theorem va_D_fst {A : Nat → Prop} {ws ws' : va_W} (h : ws'.map Prod.fst = ws.map Prod.fst) (hD : va_D A ws) : va_D A ws' := by
  have key : ∀ (i : Nat) (x : Nat × va_E), ws'[i]? = some x → ∃ y, ws[i]? = some y ∧ y.1 = x.1 := fun i x hx => by
    have h1 : (ws'.map Prod.fst)[i]? = some x.1 := by rw [List.getElem?_map, hx]; rfl
    rw [h, List.getElem?_map] at h1
    cases hy : ws[i]? with
    | none => rw [hy] at h1; cases h1
    | some y => rw [hy] at h1; exact ⟨y, rfl, Option.some.inj h1⟩
  refine ⟨fun i j x y hi hj e => ?_, fun k x hk => ?_⟩
  · obtain ⟨x', a1, a2⟩ := key i x hi
    obtain ⟨y', b1, b2⟩ := key j y hj
    exact hD.1 i j x' y' a1 b1 (by rw [a2, b2]; exact e)
  · obtain ⟨x', a1, a2⟩ := key k x hk
    rw [← a2]
    exact hD.2 k x' a1
theorem zW_fst {g : zG} {w : Nat} {ad : Nat → Nat} {σ σ' : zSt} : (zW g w ad σ').map Prod.fst = (zW g w ad σ).map Prod.fst := by
  unfold zW
  rw [List.map_map, List.map_map]
  rfl
section ZLAW
variable {p : Program} {l : Launch} {e : Env} {R : Room} {s : State} {m : MethodId} {args : Array Value} {below : List Frame} {meth : Method} {c : Code} {H : Heap} {locs : List Loc} {cells slots : Nat} {Q : State → Prop}
variable {cc : ByteArray} {pc : Nat} {ls : Array Slot} {rest : List Value} {D : va_G} {A : Nat → Prop} {H0 : Heap} {g : zG} {w : Nat} {ad : Nat → Nat} {σ : zSt} {O : va_W}
variable {y : MethodName} {bytes : ByteArray} {maxL nL n index : Nat} {ret : Option FieldType} {ws : List Cond} {rm : Room} {Ts : List Cond} {own C : String} {b : Nat} {As st0 : List Value} {σ' : zSt}
def zL2 (D : va_G) (g : zG) (w : Nat) (ad : Nat → Nat) (A : Nat → Prop) (H0 : Heap) (σ : zSt) (O : va_W) (H : Heap) (locs : List Loc) : Prop := va_P D vwCl (zW g w ad σ) H ∧ va_P D vwCl O H ∧ va_D A (zW g w ad σ ++ O) ∧ va_S A H0 H locs
theorem zL2.fst (h : zL2 D g w ad A H0 σ O H locs) : zH D g w ad A H0 σ H locs := ⟨h.1, ⟨fun i j x y hi hj e => h.2.2.1.1 i j x y (by rw [List.getElem?_append_left (List.getElem?_eq_some_iff.mp hi).1]; exact hi) (by rw [List.getElem?_append_left (List.getElem?_eq_some_iff.mp hj).1]; exact hj) e, fun k x hk => h.2.2.1.2 k x (by rw [List.getElem?_append_left (List.getElem?_eq_some_iff.mp hk).1]; exact hk)⟩, h.2.2.2⟩
theorem zL2.apart (h : zL2 D g w ad A H0 σ O H locs) {k : Nat} {x : Nat × va_E} (hk : O[k]? = some x) : ¬ va_A (zW g w ad σ) H.size x.1 := fun q => by
  have hlt := (h.2.1 k x hk).lt
  rcases q with ⟨j, e1, hj⟩ | q
  · have hj1 := (List.getElem?_eq_some_iff.mp hj).1
    have := h.2.2.1.1 j ((zW g w ad σ).length + k) (x.1, e1) x (by rw [List.getElem?_append_left hj1]; exact hj) (by rw [List.getElem?_append_right (by omega), show (zW g w ad σ).length + k - (zW g w ad σ).length = k by omega]; exact hk) rfl
    omega
  · omega
theorem zL2.after {H1 : Heap} {locs1 : List Loc} (h : zL2 D g w ad A H0 σ O H locs) (hP : va_P D vwCl (zW g w ad σ') H1) (hk : ∀ q : Nat, q < H.size → ¬ va_A (zW g w ad σ) H.size q → H1[q]? = H[q]?) (hS : va_S A H0 H1 locs1) : zL2 D g w ad A H0 σ' O H1 locs1 :=
  ⟨hP, h.2.1.kept (fun k x hx => hk x.1 ((h.2.1 k x hx).lt) (h.apart hx)), va_D_fst (by rw [List.map_append, List.map_append, zW_fst (σ := σ)]) h.2.2.1, hS⟩
theorem zL2.flip {ad' : Nat → Nat} {τ : zSt} {w' : Nat} (h : zL2 D g w ad A H0 σ (zW g w' ad' τ) H locs) : zL2 D g w' ad' A H0 τ (zW g w ad σ) H locs := ⟨h.2.1, h.1, va_D.swap (a := []) (b := zW g w ad σ) (c := zW g w' ad' τ) h.2.2.1, h.2.2.2⟩
theorem z_l2i {r : Int32} (S : CallFix p m c cc nL s args Ts own) (hK : va_K D vwCl (zT g) s) (hw : zL2 D g w ad A H0 σ O H locs) (hA : ∀ q, H0.size ≤ q → A q) (hM : zMi l D g w ad y ws rm (.ref (ad b) :: As) σ r σ') (cw : CallW R s args own C index y bytes maxL ret ws rm 0 0 n) (hO : zO w b C) (hn : As.length = n) (hsize : ls.size = nL) (hst : st0 = As.reverse ++ .ref (ad b) :: rest) (hroom : (rest.map fun v => v.category).sum ≤ 8) (hdg : decode cc pc = .ok (.invokevirtual index, 3)) (hf : cells ≤ R.cells ∧ slots ≤ R.slots)
    (kk : ∀ (H1 : Heap) (locs1 : List Loc), zL2 D g w ad A H0 σ' O H1 locs1 → W p l e R s m args below meth c H1 locs1 cells slots Q (F0 m (pc + 3) ls (.int r :: rest))) : W p l e R s m args below meth c H locs cells slots Q (F0 m pc ls st0) :=
  va_calli (va_runV (As := As) (rest := rest) S (hM H.size) cw ⟨zPre_blind, zrecv hK hw.fst hO, zPre_at hK hw.fst⟩ rfl hn hsize hst (lv_room hroom) hdg hf) hw.2.2.2 (fun q _ h => zfree hw.fst hA q h) (zfree hw.fst hA) (fun r1 u t H1 locs1 ht hvm hp hB hz1 hk1 hS => by
    obtain ⟨rfl, rfl⟩ := hp
    exact kk H1 locs1 (hw.after (by rw [← ht]; exact hB) hk1 hS))
theorem z_l2l {r : Int64} (S : CallFix p m c cc nL s args Ts own) (hK : va_K D vwCl (zT g) s) (hw : zL2 D g w ad A H0 σ O H locs) (hA : ∀ q, H0.size ≤ q → A q) (hM : zMl l D g w ad y ws rm (.ref (ad b) :: As) σ r σ') (cw : CallW R s args own C index y bytes maxL ret ws rm 0 0 n) (hO : zO w b C) (hn : As.length = n) (hsize : ls.size = nL) (hst : st0 = As.reverse ++ .ref (ad b) :: rest) (hroom : (rest.map fun v => v.category).sum ≤ 8) (hdg : decode cc pc = .ok (.invokevirtual index, 3)) (hf : cells ≤ R.cells ∧ slots ≤ R.slots)
    (kk : ∀ (H1 : Heap) (locs1 : List Loc), zL2 D g w ad A H0 σ' O H1 locs1 → W p l e R s m args below meth c H1 locs1 cells slots Q (F0 m (pc + 3) ls (.long r :: rest))) : W p l e R s m args below meth c H locs cells slots Q (F0 m pc ls st0) :=
  va_calll (va_runV (As := As) (rest := rest) S (hM H.size) cw ⟨zPre_blind, zrecv hK hw.fst hO, zPre_at hK hw.fst⟩ rfl hn hsize hst (lv_room hroom) hdg hf) hw.2.2.2 (fun q _ h => zfree hw.fst hA q h) (zfree hw.fst hA) (fun r1 u t H1 locs1 ht hvm hp hB hz1 hk1 hS => by
    obtain ⟨rfl, rfl⟩ := hp
    exact kk H1 locs1 (hw.after (by rw [← ht]; exact hB) hk1 hS))
end ZLAW
/-- what holds at every place of a turn of the law's loop -/
def lwC (p : Program) (s : State) (m : MethodId) (c : Code) (b L i : Nat) (xs : Nat → Int32) (D : va_G) (g : zG) : Prop := p.tables.exec = Jvm.exec ∧ c.code = code ∧ c.maxLocals = 4 ∧ s.vm.findClass RL = some m.cls ∧ (∀ w ∈ lw_tbl, w.before #[Value.ref b] s = true) ∧ va_K D vwCl (zT g) s ∧ va_X b L xs s s.heap ∧ b < s.heap.size ∧ i + 9 ≤ L ∧ L ≤ 4608
theorem lw_in {i L a : Nat} (h : i + 9 ≤ L) (hL : L ≤ 4608) (ha : a < 9) : vp_in (nI i + nI a) L := by
  rw [nI_add]
  exact vp_in_nI (by omega) (by omega)
