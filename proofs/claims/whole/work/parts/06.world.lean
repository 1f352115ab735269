/-! THE STATE: ints, longs and references, each by its cell's number and the place in it -/
abbrev zSt : Type := (Nat → Nat → Int32) × (Nat → Nat → Int64) × (Nat → Nat → Nat)
def zI (σ : zSt) (c k : Nat) : Int32 := σ.1 c k
def zJ (σ : zSt) (c k : Nat) : Int64 := σ.2.1 c k
def zR (σ : zSt) (c k : Nat) : Nat := σ.2.2 c k
def zwI (σ : zSt) (c k : Nat) (v : Int32) : zSt := (fun c' k' => if c' = c ∧ k' = k then v else σ.1 c' k', σ.2.1, σ.2.2)
def zwJ (σ : zSt) (c k : Nat) (v : Int64) : zSt := (σ.1, fun c' k' => if c' = c ∧ k' = k then v else σ.2.1 c' k', σ.2.2)
def zwR (σ : zSt) (c k : Nat) (v : Nat) : zSt := (σ.1, σ.2.1, fun c' k' => if c' = c ∧ k' = k then v else σ.2.2 c' k')
theorem zI_wI (σ : zSt) (c k : Nat) (v : Int32) (c' k' : Nat) : zI (zwI σ c k v) c' k' = if c' = c ∧ k' = k then v else zI σ c' k' := rfl
theorem zI_wJ (σ : zSt) (c k : Nat) (v : Int64) (c' k' : Nat) : zI (zwJ σ c k v) c' k' = zI σ c' k' := rfl
theorem zI_wR (σ : zSt) (c k : Nat) (v : Nat) (c' k' : Nat) : zI (zwR σ c k v) c' k' = zI σ c' k' := rfl
theorem zJ_wI (σ : zSt) (c k : Nat) (v : Int32) (c' k' : Nat) : zJ (zwI σ c k v) c' k' = zJ σ c' k' := rfl
theorem zJ_wJ (σ : zSt) (c k : Nat) (v : Int64) (c' k' : Nat) : zJ (zwJ σ c k v) c' k' = if c' = c ∧ k' = k then v else zJ σ c' k' := rfl
theorem zJ_wR (σ : zSt) (c k : Nat) (v : Nat) (c' k' : Nat) : zJ (zwR σ c k v) c' k' = zJ σ c' k' := rfl
theorem zR_wI (σ : zSt) (c k : Nat) (v : Int32) (c' k' : Nat) : zR (zwI σ c k v) c' k' = zR σ c' k' := rfl
theorem zR_wJ (σ : zSt) (c k : Nat) (v : Int64) (c' k' : Nat) : zR (zwJ σ c k v) c' k' = zR σ c' k' := rfl
theorem zR_wR (σ : zSt) (c k : Nat) (v : Nat) (c' k' : Nat) : zR (zwR σ c k v) c' k' = if c' = c ∧ k' = k then v else zR σ c' k' := rfl
/-! THE SHAPE of the two systems: 0 the landed one, 1 the reference: how many cells, how many of them objects, their numbers in vwCl, their fields (0 int, 1 long, 2 a reference that changes, 3 + c the cell c), the arrays' kinds (0 ints, 1 longs, 2 rows) and lengths -/
def zN (w : Nat) : Nat := if w = 0 then 82 else 19
def znO (w : Nat) : Nat := if w = 0 then 11 else 1
def zcn (w c : Nat) : Nat := if w = 0 then ([10, 6, 5, 8, 2, 9, 3, 1, 4, 7, 0] : List Nat).getD c 99 else 11
def zft (w c : Nat) : List Nat := if w = 0 then ([[4, 5, 6, 7, 8, 9, 10, 11, 12, 13, 0], [14, 19, 20], [21, 0, 0, 2, 0, 0, 0], [0, 35, 48], [49, 50, 0, 0], [51, 0, 0], [6, 8, 58, 65], [1, 2, 2, 74], [75, 0, 1, 82], [2, 2, 0, 1], [0, 0, 0]] : List (List Nat)).getD c [] else ([0, 0, 4, 5, 6, 0, 7, 0, 0, 0, 8, 0, 9, 10, 11, 12, 0, 0, 13, 0, 14, 15, 16, 17, 18, 19, 20, 21] : List Nat)
def zak (w j : Nat) : Nat := if w = 0 then ([9, 9, 9, 9, 9, 9, 9, 9, 9, 9, 9, 2, 0, 0, 0, 0, 0, 0, 2, 0, 0, 0, 0, 0, 0, 0, 0, 0, 0, 0, 0, 0, 2, 0, 0, 0, 0, 0, 0, 0, 0, 0, 0, 0, 0, 0, 0, 0, 2, 0, 0, 0, 0, 0, 0, 2, 0, 0, 0, 0, 0, 0, 2, 0, 0, 0, 0, 0, 0, 1, 1, 0, 2, 0, 0, 0, 0, 0, 0, 1, 1, 1] : List Nat).getD j 9 else ([9, 0, 0, 0, 0, 0, 0, 0, 1, 1, 0, 0, 0, 0, 0, 0, 1, 0, 0] : List Nat).getD j 9
def zlen (w j : Nat) : Nat := if w = 0 then ([0, 0, 0, 0, 0, 0, 0, 0, 0, 0, 0, 4, 120, 120, 120, 120, 4, 4, 12, 6, 6, 6, 6, 6, 6, 6, 6, 6, 6, 6, 6, 0, 12, 7, 7, 7, 7, 7, 7, 7, 7, 7, 7, 7, 7, 12, 4, 4, 6, 7, 7, 7, 7, 7, 7, 6, 6, 6, 6, 6, 6, 6, 6, 6, 6, 6, 6, 6, 6, 6, 6, 6, 6, 6, 6, 6, 6, 6, 6, 7, 200, 200] : List Nat).getD j 0 else ([0, 4, 4, 480, 72, 72, 4, 4, 6, 6, 36, 6, 6, 6, 6, 6, 8, 12300, 9] : List Nat).getD j 0
/-! THE WORLD: what lies at each address -/
def zfv (ad : Nat → Nat) (σ : zSt) (c k d : Nat) : Value := if d = 0 then .int (zI σ c k) else if d = 1 then .long (zJ σ c k) else if d = 2 then .ref (ad (zR σ c k)) else .ref (ad (d - 3))
def zfs (w : Nat) (ad : Nat → Nat) (σ : zSt) (c : Nat) : List Value := (zft w c).mapIdx (fun k d => zfv ad σ c k d)
abbrev zG : Type := ClassId × ClassId × ClassId
def zcell (g : zG) (w : Nat) (ad : Nat → Nat) (σ : zSt) (j : Nat) : va_E :=
  if j < znO w then .inr (zcn w j, zfs w ad σ j)
  else if zak w j = 0 then .inl (g.1, zlen w j, .inl (fun i => zI σ j i))
  else if zak w j = 1 then .inl (g.2.1, zlen w j, .inr (.inl (fun i => zJ σ j i)))
  else .inl (g.2.2, zlen w j, .inr (.inr (.inr (.inr (fun i => if i < zlen w j then some (ad (j + 1 + i)) else none)))))
def zW (g : zG) (w : Nat) (ad : Nat → Nat) (σ : zSt) : va_W := (List.range (zN w)).map (fun j => (ad j, zcell g w ad σ j))
def zT (g : zG) : List (ClassId × FieldType) := [(g.1, .int), (g.2.1, .long), (g.2.2, .array .int)]
theorem zW_at {g : zG} {w : Nat} {ad : Nat → Nat} {σ : zSt} {j : Nat} (h : j < zN w) : (zW g w ad σ)[j]? = some (ad j, zcell g w ad σ j) := by
  unfold zW
  rw [List.getElem?_map, List.getElem?_range h]
  rfl
theorem zW_no {g : zG} {w : Nat} {ad : Nat → Nat} {σ : zSt} {j : Nat} (h : ¬ j < zN w) : (zW g w ad σ)[j]? = none := by
  unfold zW
  rw [List.getElem?_eq_none_iff, List.length_map, List.length_range]
  omega
theorem zW_in {g : zG} {w : Nat} {ad : Nat → Nat} {σ : zSt} {j : Nat} {q : Nat × va_E} (h : (zW g w ad σ)[j]? = some q) : j < zN w ∧ q = (ad j, zcell g w ad σ j) := by
  by_cases hj : j < zN w
  · rw [zW_at hj] at h
    exact ⟨hj, (Option.some.inj h).symm⟩
  · rw [zW_no hj] at h
    cases h
theorem zW_set {g : zG} {w : Nat} {ad : Nat → Nat} {σ σ' : zSt} {j : Nat} {e : va_E} (hj : j < zN w) (he : zcell g w ad σ' j = e) (ho : ∀ i, i ≠ j → zcell g w ad σ' i = zcell g w ad σ i) : (zW g w ad σ).set j (ad j, e) = zW g w ad σ' := by
  apply List.ext_getElem?
  intro i
  rw [List.getElem?_set]
  by_cases hij : j = i
  · subst hij
    rw [zW_at hj, zW_at hj, he]
    have : j < (zW g w ad σ).length := by unfold zW; rw [List.length_map, List.length_range]; exact hj
    simp [this]
  · rw [if_neg hij]
    by_cases hi : i < zN w
    · rw [zW_at hi, zW_at hi, ho i (fun h => hij h.symm)]
    · rw [zW_no hi, zW_no hi]
theorem zD_mv {g : zG} {w : Nat} {ad : Nat → Nat} {σ : zSt} (σ' : zSt) {A : Nat → Prop} (h : va_D A (zW g w ad σ)) : va_D A (zW g w ad σ') := by
  refine ⟨fun i j p q hp hq he => ?_, fun k q hq => ?_⟩
  · obtain ⟨h1, rfl⟩ := zW_in hp
    obtain ⟨h2, rfl⟩ := zW_in hq
    exact h.1 i j _ _ (zW_at h1) (zW_at h2) he
  · obtain ⟨h1, rfl⟩ := zW_in hq
    exact h.2 k (ad k, zcell g w ad σ k) (zW_at h1)
theorem zA_mv {g : zG} {w : Nat} {ad : Nat → Nat} {σ σ' : zSt} {sz q : Nat} (h : va_A (zW g w ad σ) sz q) : va_A (zW g w ad σ') sz q := by
  rcases h with ⟨k, e, h⟩ | h
  · obtain ⟨h1, h2⟩ := zW_in h
    refine Or.inl ⟨k, zcell g w ad σ' k, ?_⟩
    rw [zW_at h1]
    rw [show q = ad k from congrArg Prod.fst h2]
  · exact Or.inr h
theorem zfs_at {w : Nat} {ad : Nat → Nat} {σ : zSt} {c k d : Nat} (h : (zft w c)[k]? = some d) : (zfs w ad σ c)[k]? = some (zfv ad σ c k d) := by
  unfold zfs
  rw [List.getElem?_mapIdx, h]
  rfl
theorem zfs_len {w : Nat} {ad : Nat → Nat} {σ : zSt} {c k d : Nat} (h : (zft w c)[k]? = some d) : k < (zfs w ad σ c).length := by
  unfold zfs
  rw [List.length_mapIdx]
  exact (List.getElem?_eq_some_iff.mp h).1
theorem zfs_set {w : Nat} {ad : Nat → Nat} {σ σ' : zSt} {c k d : Nat} {v : Value} (h : (zft w c)[k]? = some d) (hv : zfv ad σ' c k d = v) (ho : ∀ i e, i ≠ k → zfv ad σ' c i e = zfv ad σ c i e) : (zfs w ad σ c).set k v = zfs w ad σ' c := by
  apply List.ext_getElem?
  intro i
  rw [List.getElem?_set]
  by_cases hik : k = i
  · subst hik
    rw [zfs_at h, zfs_at h, hv]
    simp [zfs_len (σ := σ) (ad := ad) h]
  · rw [if_neg hik]
    unfold zfs
    rw [List.getElem?_mapIdx, List.getElem?_mapIdx]
    cases (zft w c)[i]? with
    | none => rfl
    | some e => exact congrArg some (ho i e (fun q => hik q.symm)).symm
theorem zcell_wI {g : zG} {w : Nat} {ad : Nat → Nat} {σ : zSt} {c k i : Nat} {v : Int32} (h : i ≠ c) : zcell g w ad (zwI σ c k v) i = zcell g w ad σ i := by
  simp only [zcell, zfs, zfv, zI_wI, zJ_wI, zR_wI, h, false_and, if_false]
theorem zcell_wJ {g : zG} {w : Nat} {ad : Nat → Nat} {σ : zSt} {c k i : Nat} {v : Int64} (h : i ≠ c) : zcell g w ad (zwJ σ c k v) i = zcell g w ad σ i := by
  simp only [zcell, zfs, zfv, zI_wJ, zJ_wJ, zR_wJ, h, false_and, if_false]
theorem zcell_wR {g : zG} {w : Nat} {ad : Nat → Nat} {σ : zSt} {c k i : Nat} {v : Nat} (h : i ≠ c) : zcell g w ad (zwR σ c k v) i = zcell g w ad σ i := by
  simp only [zcell, zfs, zfv, zI_wR, zJ_wR, zR_wR, h, false_and, if_false]
theorem zcell_ob {g : zG} {w : Nat} {ad : Nat → Nat} {σ : zSt} {c : Nat} (h : c < znO w) : zcell g w ad σ c = .inr (zcn w c, zfs w ad σ c) := by
  unfold zcell
  rw [if_pos h]
theorem zcell_I {g : zG} {w : Nat} {ad : Nat → Nat} {σ : zSt} {c : Nat} (h : znO w ≤ c) (h0 : zak w c = 0) : zcell g w ad σ c = .inl (g.1, zlen w c, .inl (fun i => zI σ c i)) := by
  unfold zcell
  rw [if_neg (by omega), if_pos h0]
theorem zcell_J {g : zG} {w : Nat} {ad : Nat → Nat} {σ : zSt} {c : Nat} (h : znO w ≤ c) (h0 : zak w c = 1) : zcell g w ad σ c = .inl (g.2.1, zlen w c, .inr (.inl (fun i => zJ σ c i))) := by
  unfold zcell
  rw [if_neg (by omega), if_neg (by omega), if_pos h0]
theorem zcell_A {g : zG} {w : Nat} {ad : Nat → Nat} {σ : zSt} {c : Nat} (h : znO w ≤ c) (h0 : zak w c = 2) : zcell g w ad σ c = .inl (g.2.2, zlen w c, .inr (.inr (.inr (.inr (fun i => if i < zlen w c then some (ad (c + 1 + i)) else none))))) := by
  unfold zcell
  rw [if_neg (by omega), if_neg (by omega), if_neg (by omega)]
/-! READS AND WRITES of arrays, as the pure programs have them: none where the machine would throw -/
def zok (w a j : Nat) (i : Int32) : Prop := znO w ≤ j ∧ j < zN w ∧ zak w j = a ∧ ¬ i < 0 ∧ i.toNatClampNeg < zlen w j
theorem zok_in {w a j : Nat} {i : Int32} (h : zok w a j i) : vp_in i (zlen w j) := fun q => q.elim h.2.2.2.1 (fun q => by have := h.2.2.2.2; omega)
def zrI (w : Nat) (σ : zSt) (j : Nat) (i : Int32) : Option Int32 := if znO w ≤ j ∧ j < zN w ∧ zak w j = 0 ∧ ¬ i < 0 ∧ i.toNatClampNeg < zlen w j then some (zI σ j i.toNatClampNeg) else none
def zrJ (w : Nat) (σ : zSt) (j : Nat) (i : Int32) : Option Int64 := if znO w ≤ j ∧ j < zN w ∧ zak w j = 1 ∧ ¬ i < 0 ∧ i.toNatClampNeg < zlen w j then some (zJ σ j i.toNatClampNeg) else none
def zrA (w : Nat) (j : Nat) (i : Int32) : Option Nat := if znO w ≤ j ∧ j < zN w ∧ zak w j = 2 ∧ ¬ i < 0 ∧ i.toNatClampNeg < zlen w j then some (j + 1 + i.toNatClampNeg) else none
def zsI (w : Nat) (σ : zSt) (j : Nat) (i v : Int32) : Option zSt := if znO w ≤ j ∧ j < zN w ∧ zak w j = 0 ∧ ¬ i < 0 ∧ i.toNatClampNeg < zlen w j then some (zwI σ j i.toNatClampNeg v) else none
def zsJ (w : Nat) (σ : zSt) (j : Nat) (i : Int32) (v : Int64) : Option zSt := if znO w ≤ j ∧ j < zN w ∧ zak w j = 1 ∧ ¬ i < 0 ∧ i.toNatClampNeg < zlen w j then some (zwJ σ j i.toNatClampNeg v) else none
def zln (w : Nat) (j : Nat) : Option Int32 := if znO w ≤ j ∧ j < zN w then some (Int32.ofNat (zlen w j)) else none
def zdl (x y : Int64) : Option Int64 := if y = 0 then none else some (x / y)
def zml (x y : Int64) : Option Int64 := if y = 0 then none else some (x - x / y * y)
theorem zif {c : Prop} {d : Decidable c} {α : Type} {x v : α} (h : (if c then some x else none) = some v) : c ∧ x = v := by
  by_cases hc : c
  · rw [if_pos hc] at h
    exact ⟨hc, Option.some.inj h⟩
  · rw [if_neg hc] at h
    cases h
theorem zni {c : Prop} {d : Decidable c} {α : Type} {x v : α} (h : (if c then none else some x) = some v) : ¬ c ∧ x = v := by
  by_cases hc : c
  · rw [if_pos hc] at h
    cases h
  · rw [if_neg hc] at h
    exact ⟨hc, Option.some.inj h⟩
/-- System.arraycopy of ints -/
def zcp (w : Nat) (σ : zSt) (j : Nat) (i : Int32) (j' : Nat) (i' n : Int32) : Option zSt :=
  if (znO w ≤ j ∧ j < zN w ∧ zak w j = 0) ∧ (znO w ≤ j' ∧ j' < zN w ∧ zak w j' = 0) ∧ (¬ i < 0 ∧ ¬ i' < 0 ∧ ¬ n < 0) ∧ i.toNatClampNeg + n.toNatClampNeg ≤ zlen w j ∧ i'.toNatClampNeg + n.toNatClampNeg ≤ zlen w j' then
    some (fun c k => if c = j' then va_cpy (fun k => zI σ j k) (fun k => zI σ j' k) i.toNatClampNeg i'.toNatClampNeg n.toNatClampNeg k else σ.1 c k, σ.2.1, σ.2.2) else none
/-! LOOPS -/
def zLp {α β : Type} (body : α → Option (α ⊕ β)) : Nat → α → Option β
  | 0, _ => none
  | n + 1, a => match body a with
    | none => none
    | some (.inl a') => zLp body n a'
    | some (.inr b) => some b
def zFU : Nat := 1000
theorem zLp_walk {α β : Type} {body : α → Option (α ⊕ β)} (P : α → Prop) (E : β → Prop) (hs : ∀ (a : α) (r : α ⊕ β), body a = some r → (∀ a', r = .inl a' → P a') → (∀ b, r = .inr b → E b) → P a) : ∀ (n : Nat) (a : α) (b : β), zLp body n a = some b → E b → P a := by
  intro n
  induction n with
  | zero => intro a b h; exact absurd h (by simp [zLp])
  | succ n ih =>
    intro a b h hE
    cases hb : body a with
    | none => simp [zLp, hb] at h
    | some r =>
      cases r with
      | inl a' =>
        simp only [zLp, hb] at h
        exact hs a _ hb (fun a2 e => by cases e; exact ih _ _ h hE) (fun b2 e => by cases e)
      | inr b' =>
        simp only [zLp, hb] at h
        cases h
        exact hs a _ hb (fun a2 e => by cases e) (fun b2 e => by cases e; exact hE)
theorem zbind {α β : Type} {x : Option α} {f : α → Option β} {b : β} (h : x.bind f = some b) : ∃ a, x = some a ∧ f a = some b := Option.bind_eq_some_iff.mp h
/-! THE ROWS -/
section ZROWS
variable {p : Program} {l : Launch} {e : Env} {R : Room} {s : State} {m : MethodId} {args : Array Value} {below : List Frame} {meth : Method} {c : Code} {H : Heap} {locs : List Loc} {cells slots : Nat} {Q : State → Prop}
variable {cc : ByteArray} {pc : Nat} {ls : Array Slot} {rest : List Value} {D : va_G} {A : Nat → Prop} {H0 : Heap} {g : zG} {w : Nat} {ad : Nat → Nat} {σ : zSt}
def zH (D : va_G) (g : zG) (w : Nat) (ad : Nat → Nat) (A : Nat → Prop) (H0 : Heap) (σ : zSt) (H : Heap) (locs : List Loc) : Prop := va_P D vwCl (zW g w ad σ) H ∧ va_D A (zW g w ad σ) ∧ va_S A H0 H locs
theorem z_iald (hexec : p.tables.exec = Jvm.exec) (hb : c.code = cc) (hK : va_K D vwCl (zT g) s) (hw : zH D g w ad A H0 σ H locs) {j : Nat} {i v : Int32} (hr : zrI w σ j i = some v) (hdg : decode cc pc = .ok (.iaload, 1))
    (kk : W p l e R s m args below meth c H locs cells slots Q (F0 m (pc + 1) ls (.int v :: rest))) : W p l e R s m args below meth c H locs cells slots Q (F0 m pc ls (.int i :: .ref (ad j) :: rest)) := by
  obtain ⟨h, rfl⟩ := zif hr
  exact va_iald hexec hb hK hw.1 j 0 (f := fun i => zI σ j i) (by rw [zW_at h.2.1, zcell_I h.1 h.2.2.1]) rfl (zok_in h) hdg kk
theorem z_lald (hexec : p.tables.exec = Jvm.exec) (hb : c.code = cc) (hK : va_K D vwCl (zT g) s) (hw : zH D g w ad A H0 σ H locs) {j : Nat} {i : Int32} {v : Int64} (hr : zrJ w σ j i = some v) (hdg : decode cc pc = .ok (.laload, 1))
    (kk : W p l e R s m args below meth c H locs cells slots Q (F0 m (pc + 1) ls (.long v :: rest))) : W p l e R s m args below meth c H locs cells slots Q (F0 m pc ls (.int i :: .ref (ad j) :: rest)) := by
  obtain ⟨h, rfl⟩ := zif hr
  exact va_lald hexec hb hK hw.1 j 1 (f := fun i => zJ σ j i) (by rw [zW_at h.2.1, zcell_J h.1 h.2.2.1]) rfl (zok_in h) hdg kk
theorem z_aald (hexec : p.tables.exec = Jvm.exec) (hb : c.code = cc) (hK : va_K D vwCl (zT g) s) (hw : zH D g w ad A H0 σ H locs) {j : Nat} {i : Int32} {v : Nat} (hr : zrA w j i = some v) (hdg : decode cc pc = .ok (.aaload, 1))
    (kk : W p l e R s m args below meth c H locs cells slots Q (F0 m (pc + 1) ls (.ref (ad v) :: rest))) : W p l e R s m args below meth c H locs cells slots Q (F0 m pc ls (.int i :: .ref (ad j) :: rest)) := by
  obtain ⟨h, rfl⟩ := zif hr
  have hin := zok_in h
  have hlt : i.toNatClampNeg < zlen w j := h.2.2.2.2
  have hcell := hw.1 j _ (zW_at h.2.1)
  rw [zcell_A h.1 h.2.2.1] at hcell
  exact W.aald (v := .ref (ad (j + 1 + i.toNatClampNeg))) (ty := .array .int) hexec hb hcell ((hK.2 2 _ rfl).1 (zlen w j) (fun k => va_rf (if k < zlen w j then some (ad (j + 1 + k)) else none))) rfl (fun q => by cases q) (by show ¬ (i < 0 ∨ (arrV _ _ _).slots.size ≤ _); rw [arrV_size]; exact hin) (by show (arrV _ _ _).slots[_]? = _; rw [arrV_read _ _ hlt]; show some (va_rf (if i.toNatClampNeg < zlen w j then some (ad (j + 1 + i.toNatClampNeg)) else none)) = _; rw [if_pos hlt]; rfl) rfl rfl hdg kk
theorem z_alen (hexec : p.tables.exec = Jvm.exec) (hb : c.code = cc) (hK : va_K D vwCl (zT g) s) (hw : zH D g w ad A H0 σ H locs) {j : Nat} {v : Int32} (hr : zln w j = some v) (hdg : decode cc pc = .ok (.arraylength, 1))
    (kk : W p l e R s m args below meth c H locs cells slots Q (F0 m (pc + 1) ls (.int v :: rest))) : W p l e R s m args below meth c H locs cells slots Q (F0 m pc ls (.ref (ad j) :: rest)) := by
  obtain ⟨h, rfl⟩ := zif hr
  by_cases h0 : zak w j = 0
  · exact va_alen hexec hb hK hw.1 j 0 (x := (zlen w j, .inl (fun i => zI σ j i))) (by rw [zW_at h.2, zcell_I h.1 h0]) rfl rfl hdg kk
  · by_cases h1 : zak w j = 1
    · exact va_alen hexec hb hK hw.1 j 1 (x := (zlen w j, .inr (.inl (fun i => zJ σ j i)))) (by rw [zW_at h.2, zcell_J h.1 h1]) rfl rfl hdg kk
    · refine va_alen hexec hb hK hw.1 j 2 (x := (zlen w j, .inr (.inr (.inr (.inr (fun i => if i < zlen w j then some (ad (j + 1 + i)) else none)))))) (ty := .array .int) ?_ rfl rfl hdg kk
      rw [zW_at h.2]
      unfold zcell
      rw [if_neg (by omega), if_neg h0, if_neg h1]
theorem z_iast (hexec : p.tables.exec = Jvm.exec) (hb : c.code = cc) (hK : va_K D vwCl (zT g) s) (hw : zH D g w ad A H0 σ H locs) {j : Nat} {i x : Int32} {σ' : zSt} (hr : zsI w σ j i x = some σ') (hdg : decode cc pc = .ok (.iastore, 1))
    (kk : ∀ (H1 : Heap) (locs1 : List Loc), zH D g w ad A H0 σ' H1 locs1 → W p l e R s m args below meth c H1 locs1 cells slots Q (F0 m (pc + 1) ls rest)) : W p l e R s m args below meth c H locs cells slots Q (F0 m pc ls (.int x :: .int i :: .ref (ad j) :: rest)) := by
  obtain ⟨h, rfl⟩ := zif hr
  refine va_iast hexec hb hK hw.1 hw.2.1 hw.2.2 j 0 (f := fun i => zI σ j i) (by rw [zW_at h.2.1, zcell_I h.1 h.2.2.1]) rfl (zok_in h) hdg (fun H1 locs1 hP hD hS => kk H1 locs1 ?_)
  have he := zW_set (g := g) (ad := ad) (σ := σ) (σ' := zwI σ j i.toNatClampNeg x) (e := .inl (g.1, zlen w j, .inl (upd (fun i => zI σ j i) i.toNatClampNeg x))) h.2.1 (by rw [zcell_I h.1 h.2.2.1]; congr 3; congr 1; funext q; rw [zI_wI]; simp [upd]) (fun i hi => zcell_wI hi)
  rw [he] at hP hD
  exact ⟨hP, hD, hS⟩
theorem z_last (hexec : p.tables.exec = Jvm.exec) (hb : c.code = cc) (hK : va_K D vwCl (zT g) s) (hw : zH D g w ad A H0 σ H locs) {j : Nat} {i : Int32} {x : Int64} {σ' : zSt} (hr : zsJ w σ j i x = some σ') (hdg : decode cc pc = .ok (.lastore, 1))
    (kk : ∀ (H1 : Heap) (locs1 : List Loc), zH D g w ad A H0 σ' H1 locs1 → W p l e R s m args below meth c H1 locs1 cells slots Q (F0 m (pc + 1) ls rest)) : W p l e R s m args below meth c H locs cells slots Q (F0 m pc ls (.long x :: .int i :: .ref (ad j) :: rest)) := by
  obtain ⟨h, rfl⟩ := zif hr
  refine va_last hexec hb hK hw.1 hw.2.1 hw.2.2 j 1 (f := fun i => zJ σ j i) (by rw [zW_at h.2.1, zcell_J h.1 h.2.2.1]) rfl (zok_in h) hdg (fun H1 locs1 hP hD hS => kk H1 locs1 ?_)
  have he := zW_set (g := g) (ad := ad) (σ := σ) (σ' := zwJ σ j i.toNatClampNeg x) (e := .inl (g.2.1, zlen w j, .inr (.inl (vp_updL (fun i => zJ σ j i) i.toNatClampNeg x)))) h.2.1 (by rw [zcell_J h.1 h.2.2.1]; congr 4; congr 1; funext q; rw [zJ_wJ]; simp [vp_updL]) (fun i hi => zcell_wJ hi)
  rw [he] at hP hD
  exact ⟨hP, hD, hS⟩
/-- a field: cell co, place k, kind d, of the class C with the fields T, N of them -/
def zF (w co k d : Nat) (C : String) (T : u_T) (N : Nat) (ref nm ds : String) (fin : Bool) : Prop := co < znO w ∧ co < zN w ∧ (zft w co)[k]? = some d ∧ vwCl[zcn w co]? = some (C, T, N) ∧ k < N ∧ T k = (ref, nm, ds, fin)
theorem z_get {d : Nat} (hexec : p.tables.exec = Jvm.exec) (hb : c.code = cc) {own ref nm ds C : String} {fin : Bool} {T : u_T} {N co k index : Nat} {Ts : List Cond} (hts : ∀ w ∈ Ts, w.before args s = true) (hin : ∀ w ∈ u_ws C T N, w ∈ Ts) (hown : s.vm.findClass own = some m.cls) (hK : va_K D vwCl (zT g) s) (hw : zH D g w ad A H0 σ H locs) (hF : zF w co k d C T N ref nm ds fin) (hlink : (Cond.fieldLink own index ref nm ds).before args s = true) (hdg : decode cc pc = .ok (.getfield index, 3))
    (kk : W p l e R s m args below meth c H locs cells slots Q (F0 m (pc + 3) ls (zfv ad σ co k d :: rest))) : W p l e R s m args below meth c H locs cells slots Q (F0 m pc ls (.ref (ad co) :: rest)) :=
  va_get (D := D) (ref := ref) (ci := zcn w co) (C := C) (T := T) (N := N) hexec hb hts hin hown hK hw.1 co (by rw [zW_at hF.2.1, zcell_ob hF.1]) hF.2.2.2.1 k hF.2.2.2.2.1 (by rw [hF.2.2.2.2.2]; exact hlink) (fun _ h9 => by rw [hF.2.2.2.2.2] at h9 ⊢; exact h9) (zfs_at hF.2.2.1) hdg kk
theorem z_geti (hexec : p.tables.exec = Jvm.exec) (hb : c.code = cc) {own ref nm ds C : String} {fin : Bool} {T : u_T} {N co k index : Nat} {Ts : List Cond} (hts : ∀ w ∈ Ts, w.before args s = true) (hin : ∀ w ∈ u_ws C T N, w ∈ Ts) (hown : s.vm.findClass own = some m.cls) (hK : va_K D vwCl (zT g) s) (hw : zH D g w ad A H0 σ H locs) (hF : zF w co k 0 C T N ref nm ds fin) (hlink : (Cond.fieldLink own index ref nm ds).before args s = true) (hdg : decode cc pc = .ok (.getfield index, 3))
    (kk : W p l e R s m args below meth c H locs cells slots Q (F0 m (pc + 3) ls (.int (zI σ co k) :: rest))) : W p l e R s m args below meth c H locs cells slots Q (F0 m pc ls (.ref (ad co) :: rest)) := z_get hexec hb hts hin hown hK hw hF hlink hdg kk
theorem z_getl (hexec : p.tables.exec = Jvm.exec) (hb : c.code = cc) {own ref nm ds C : String} {fin : Bool} {T : u_T} {N co k index : Nat} {Ts : List Cond} (hts : ∀ w ∈ Ts, w.before args s = true) (hin : ∀ w ∈ u_ws C T N, w ∈ Ts) (hown : s.vm.findClass own = some m.cls) (hK : va_K D vwCl (zT g) s) (hw : zH D g w ad A H0 σ H locs) (hF : zF w co k 1 C T N ref nm ds fin) (hlink : (Cond.fieldLink own index ref nm ds).before args s = true) (hdg : decode cc pc = .ok (.getfield index, 3))
    (kk : W p l e R s m args below meth c H locs cells slots Q (F0 m (pc + 3) ls (.long (zJ σ co k) :: rest))) : W p l e R s m args below meth c H locs cells slots Q (F0 m pc ls (.ref (ad co) :: rest)) := z_get hexec hb hts hin hown hK hw hF hlink hdg kk
theorem z_getr (hexec : p.tables.exec = Jvm.exec) (hb : c.code = cc) {own ref nm ds C : String} {fin : Bool} {T : u_T} {N co k index : Nat} {Ts : List Cond} (hts : ∀ w ∈ Ts, w.before args s = true) (hin : ∀ w ∈ u_ws C T N, w ∈ Ts) (hown : s.vm.findClass own = some m.cls) (hK : va_K D vwCl (zT g) s) (hw : zH D g w ad A H0 σ H locs) (hF : zF w co k 2 C T N ref nm ds fin) (hlink : (Cond.fieldLink own index ref nm ds).before args s = true) (hdg : decode cc pc = .ok (.getfield index, 3))
    (kk : W p l e R s m args below meth c H locs cells slots Q (F0 m (pc + 3) ls (.ref (ad (zR σ co k)) :: rest))) : W p l e R s m args below meth c H locs cells slots Q (F0 m pc ls (.ref (ad co) :: rest)) := z_get hexec hb hts hin hown hK hw hF hlink hdg kk
theorem z_getc {r : Nat} (hexec : p.tables.exec = Jvm.exec) (hb : c.code = cc) {own ref nm ds C : String} {fin : Bool} {T : u_T} {N co k index : Nat} {Ts : List Cond} (hts : ∀ w ∈ Ts, w.before args s = true) (hin : ∀ w ∈ u_ws C T N, w ∈ Ts) (hown : s.vm.findClass own = some m.cls) (hK : va_K D vwCl (zT g) s) (hw : zH D g w ad A H0 σ H locs) (hF : zF w co k (3 + r) C T N ref nm ds fin) (hlink : (Cond.fieldLink own index ref nm ds).before args s = true) (hdg : decode cc pc = .ok (.getfield index, 3))
    (kk : W p l e R s m args below meth c H locs cells slots Q (F0 m (pc + 3) ls (.ref (ad r) :: rest))) : W p l e R s m args below meth c H locs cells slots Q (F0 m pc ls (.ref (ad co) :: rest)) := by
  refine z_get hexec hb hts hin hown hK hw hF hlink hdg ?_
  rw [show zfv ad σ co k (3 + r) = .ref (ad r) by unfold zfv; rw [if_neg (by omega), if_neg (by omega), if_neg (by omega), Nat.add_sub_cancel_left]]
  exact kk
theorem z_put {d : Nat} {σ' : zSt} (hexec : p.tables.exec = Jvm.exec) (hb : c.code = cc) {own ref nm ds C : String} {T : u_T} {N co k index : Nat} {Ts : List Cond} (hts : ∀ w ∈ Ts, w.before args s = true) (hin : ∀ w ∈ u_ws C T N, w ∈ Ts) {ty0 : Nat → FieldType} (hty : ∀ k, k < N → parseFieldDescriptor (T k).2.2.1 = some (ty0 k)) (hnm : ∀ a, a < N → ∀ b, b < N → a ≠ b → (T a).2.1 ≠ (T b).2.1) (hown : s.vm.findClass own = some m.cls) (hK : va_K D vwCl (zT g) s) (hw : zH D g w ad A H0 σ H locs) (hF : zF w co k d C T N ref nm ds false) (hlink : (Cond.fieldLink own index ref nm ds).before args s = true) {ty : FieldType} {v : Value} (hd : ty0 k = ty) (hn : narrow ty v = v) (hfit : fits ty v = true)
    (hv : zfv ad σ' co k d = v) (ho : ∀ i e, i ≠ k → zfv ad σ' co i e = zfv ad σ co i e) (hc : ∀ i, i ≠ co → zcell g w ad σ' i = zcell g w ad σ i)
    (hdg : decode cc pc = .ok (.putfield index, 3)) (kk : ∀ (H1 : Heap) (locs1 : List Loc), zH D g w ad A H0 σ' H1 locs1 → W p l e R s m args below meth c H1 locs1 cells slots Q (F0 m (pc + 3) ls rest)) : W p l e R s m args below meth c H locs cells slots Q (F0 m pc ls (v :: .ref (ad co) :: rest)) := by
  refine va_put (D := D) (ref := ref) (ci := zcn w co) (C := C) (T := T) (N := N) (ty := ty) (v := v) hexec hb hts hin ty0 hty hnm hown hK hw.1 hw.2.1 hw.2.2 co (by rw [zW_at hF.2.1, zcell_ob hF.1]) hF.2.2.2.1 k hF.2.2.2.2.1 (by rw [hF.2.2.2.2.2]; exact hlink) (fun _ h9 => by rw [hF.2.2.2.2.2] at h9 ⊢; exact h9) (by rw [hF.2.2.2.2.2]) (by rw [hty k hF.2.2.2.2.1, hd]) hn hfit (zfs_len hF.2.2.1) hdg (fun H1 locs1 hP hD hS => kk H1 locs1 ?_)
  have he := zW_set (g := g) (ad := ad) (σ := σ) (σ' := σ') (e := .inr (zcn w co, (zfs w ad σ co).set k v)) hF.2.1 (by rw [zcell_ob hF.1, zfs_set hF.2.2.1 hv ho]) hc
  rw [he] at hP hD
  exact ⟨hP, hD, hS⟩
theorem z_puti (hexec : p.tables.exec = Jvm.exec) (hb : c.code = cc) {own ref nm ds C : String} {T : u_T} {N co k index : Nat} {Ts : List Cond} (hts : ∀ w ∈ Ts, w.before args s = true) (hin : ∀ w ∈ u_ws C T N, w ∈ Ts) {ty0 : Nat → FieldType} (hty : ∀ k, k < N → parseFieldDescriptor (T k).2.2.1 = some (ty0 k)) (hnm : ∀ a, a < N → ∀ b, b < N → a ≠ b → (T a).2.1 ≠ (T b).2.1) (hown : s.vm.findClass own = some m.cls) (hK : va_K D vwCl (zT g) s) (hw : zH D g w ad A H0 σ H locs) (hF : zF w co k 0 C T N ref nm ds false) (hlink : (Cond.fieldLink own index ref nm ds).before args s = true) {v : Int32}  (hd : ty0 k = .int)
    (hdg : decode cc pc = .ok (.putfield index, 3)) (kk : ∀ (H1 : Heap) (locs1 : List Loc), zH D g w ad A H0 (zwI σ co k v) H1 locs1 → W p l e R s m args below meth c H1 locs1 cells slots Q (F0 m (pc + 3) ls rest)) : W p l e R s m args below meth c H locs cells slots Q (F0 m pc ls (.int v :: .ref (ad co) :: rest)) :=
  z_put (σ' := zwI σ co k v) hexec hb hts hin hty hnm hown hK hw hF hlink hd rfl rfl (by unfold zfv; rw [if_pos rfl, zI_wI, if_pos ⟨rfl, rfl⟩]) (fun i e hi => by simp only [zfv, zI_wI, zJ_wI, zR_wI, hi, and_false, if_false]) (fun i hi => zcell_wI hi) hdg kk
theorem z_putb (hexec : p.tables.exec = Jvm.exec) (hb : c.code = cc) {own ref nm ds C : String} {T : u_T} {N co k index : Nat} {Ts : List Cond} (hts : ∀ w ∈ Ts, w.before args s = true) (hin : ∀ w ∈ u_ws C T N, w ∈ Ts) {ty0 : Nat → FieldType} (hty : ∀ k, k < N → parseFieldDescriptor (T k).2.2.1 = some (ty0 k)) (hnm : ∀ a, a < N → ∀ b, b < N → a ≠ b → (T a).2.1 ≠ (T b).2.1) (hown : s.vm.findClass own = some m.cls) (hK : va_K D vwCl (zT g) s) (hw : zH D g w ad A H0 σ H locs) (hF : zF w co k 0 C T N ref nm ds false) (hlink : (Cond.fieldLink own index ref nm ds).before args s = true) {v : Int32}  (hd : ty0 k = .boolean) (hn : narrow .boolean (.int v) = .int v) (hfit : fits .boolean (.int v) = true)
    (hdg : decode cc pc = .ok (.putfield index, 3)) (kk : ∀ (H1 : Heap) (locs1 : List Loc), zH D g w ad A H0 (zwI σ co k v) H1 locs1 → W p l e R s m args below meth c H1 locs1 cells slots Q (F0 m (pc + 3) ls rest)) : W p l e R s m args below meth c H locs cells slots Q (F0 m pc ls (.int v :: .ref (ad co) :: rest)) :=
  z_put (σ' := zwI σ co k v) hexec hb hts hin hty hnm hown hK hw hF hlink hd hn hfit (by unfold zfv; rw [if_pos rfl, zI_wI, if_pos ⟨rfl, rfl⟩]) (fun i e hi => by simp only [zfv, zI_wI, zJ_wI, zR_wI, hi, and_false, if_false]) (fun i hi => zcell_wI hi) hdg kk
theorem z_putl (hexec : p.tables.exec = Jvm.exec) (hb : c.code = cc) {own ref nm ds C : String} {T : u_T} {N co k index : Nat} {Ts : List Cond} (hts : ∀ w ∈ Ts, w.before args s = true) (hin : ∀ w ∈ u_ws C T N, w ∈ Ts) {ty0 : Nat → FieldType} (hty : ∀ k, k < N → parseFieldDescriptor (T k).2.2.1 = some (ty0 k)) (hnm : ∀ a, a < N → ∀ b, b < N → a ≠ b → (T a).2.1 ≠ (T b).2.1) (hown : s.vm.findClass own = some m.cls) (hK : va_K D vwCl (zT g) s) (hw : zH D g w ad A H0 σ H locs) (hF : zF w co k 1 C T N ref nm ds false) (hlink : (Cond.fieldLink own index ref nm ds).before args s = true) {v : Int64}  (hd : ty0 k = .long)
    (hdg : decode cc pc = .ok (.putfield index, 3)) (kk : ∀ (H1 : Heap) (locs1 : List Loc), zH D g w ad A H0 (zwJ σ co k v) H1 locs1 → W p l e R s m args below meth c H1 locs1 cells slots Q (F0 m (pc + 3) ls rest)) : W p l e R s m args below meth c H locs cells slots Q (F0 m pc ls (.long v :: .ref (ad co) :: rest)) :=
  z_put (σ' := zwJ σ co k v) hexec hb hts hin hty hnm hown hK hw hF hlink hd rfl rfl (by unfold zfv; rw [if_neg (by decide), if_pos rfl, zJ_wJ, if_pos ⟨rfl, rfl⟩]) (fun i e hi => by simp only [zfv, zI_wJ, zJ_wJ, zR_wJ, hi, and_false, if_false]) (fun i hi => zcell_wJ hi) hdg kk
theorem z_putr (hexec : p.tables.exec = Jvm.exec) (hb : c.code = cc) {own ref nm ds C : String} {T : u_T} {N co k index : Nat} {Ts : List Cond} (hts : ∀ w ∈ Ts, w.before args s = true) (hin : ∀ w ∈ u_ws C T N, w ∈ Ts) {ty0 : Nat → FieldType} (hty : ∀ k, k < N → parseFieldDescriptor (T k).2.2.1 = some (ty0 k)) (hnm : ∀ a, a < N → ∀ b, b < N → a ≠ b → (T a).2.1 ≠ (T b).2.1) (hown : s.vm.findClass own = some m.cls) (hK : va_K D vwCl (zT g) s) (hw : zH D g w ad A H0 σ H locs) (hF : zF w co k 2 C T N ref nm ds false) (hlink : (Cond.fieldLink own index ref nm ds).before args s = true) {v : Nat} {tt : FieldType} (hd : ty0 k = .array tt)
    (hdg : decode cc pc = .ok (.putfield index, 3)) (kk : ∀ (H1 : Heap) (locs1 : List Loc), zH D g w ad A H0 (zwR σ co k v) H1 locs1 → W p l e R s m args below meth c H1 locs1 cells slots Q (F0 m (pc + 3) ls rest)) : W p l e R s m args below meth c H locs cells slots Q (F0 m pc ls (.ref (ad v) :: .ref (ad co) :: rest)) :=
  z_put (σ' := zwR σ co k v) hexec hb hts hin hty hnm hown hK hw hF hlink hd rfl rfl (by unfold zfv; rw [if_neg (by decide), if_neg (by decide), if_pos rfl, zR_wR, if_pos ⟨rfl, rfl⟩]) (fun i e hi => by simp only [zfv, zI_wR, zJ_wR, zR_wR, hi, and_false, if_false]) (fun i hi => zcell_wR hi) hdg kk
theorem z_ldiv (hexec : p.tables.exec = Jvm.exec) (hb : c.code = cc) {x y v : Int64} (hr : zdl x y = some v) (hdg : decode cc pc = .ok (.ldiv, 1)) (kk : W p l e R s m args below meth c H locs cells slots Q (F0 m (pc + 1) ls (.long v :: rest))) : W p l e R s m args below meth c H locs cells slots Q (F0 m pc ls (.long y :: .long x :: rest)) := by
  obtain ⟨h, rfl⟩ := zni hr
  exact lv_ldiv hexec hb hdg h kk
theorem z_lrem (hexec : p.tables.exec = Jvm.exec) (hb : c.code = cc) {x y v : Int64} (hr : zml x y = some v) (hdg : decode cc pc = .ok (.lrem, 1)) (kk : W p l e R s m args below meth c H locs cells slots Q (F0 m (pc + 1) ls (.long v :: rest))) : W p l e R s m args below meth c H locs cells slots Q (F0 m pc ls (.long y :: .long x :: rest)) := by
  obtain ⟨h, rfl⟩ := zni hr
  exact lv_lrem hexec hb hdg h kk
theorem z_arcp (hexec : p.tables.exec = Jvm.exec) (hb : c.code = cc) (hml : c.maxLocals = ls.size) {own : String} {index : Nat} (hown : s.vm.findClass own = some m.cls) (hlink : (Cond.methodLink own index arraycopyName).before args s = true) (hnat : (Cond.native arraycopyName).before args s = true) (hstat : (Cond.static arraycopyName).before args s = true) (hini : (Cond.initialized "java/lang/System").before args s = true)
    (hK : va_K D vwCl (zT g) s) (hw : zH D g w ad A H0 σ H locs) {j j' : Nat} {i i' n : Int32} {σ' : zSt} (hr : zcp w σ j i j' i' n = some σ') (hframes : 1 ≤ R.frames) (hlocals : (rest.map fun v => v.category).sum + (nativeFrameWords "java/lang/System" "arraycopy" 5 + 11) ≤ R.locals) (hdg : decode cc pc = .ok (.invokestatic index, 3))
    (kk : ∀ (H1 : Heap) (locs1 : List Loc), zH D g w ad A H0 σ' H1 locs1 → W p l e R s m args below meth c H1 locs1 cells slots Q (F0 m (pc + 3) ls rest)) : W p l e R s m args below meth c H locs cells slots Q (F0 m pc ls (.int n :: .int i' :: .ref (ad j') :: .int i :: .ref (ad j) :: rest)) := by
  obtain ⟨h, rfl⟩ := zif hr
  refine va_copyi (cc := cc) hexec hb hml hown hlink hnat hstat hini hK hw.1 hw.2.1 hw.2.2 j j' 0 0 (f := fun i => zI σ j i) (g := fun i => zI σ j' i) (ty := .int) (by rw [zW_at h.1.2.1, zcell_I h.1.1 h.1.2.2]) (by rw [zW_at h.2.1.2.1, zcell_I h.2.1.1 h.2.1.2.2]) rfl rfl rfl h.2.2.1.1 h.2.2.1.2.1 h.2.2.1.2.2 h.2.2.2.1 h.2.2.2.2 (fun _ _ => rfl) hframes hlocals hdg (fun H1 locs1 hP hD hS => kk H1 locs1 ?_)
  have he := zW_set (g := g) (ad := ad) (σ := σ) (σ' := (fun c k => if c = j' then va_cpy (fun k => zI σ j k) (fun k => zI σ j' k) i.toNatClampNeg i'.toNatClampNeg n.toNatClampNeg k else σ.1 c k, σ.2.1, σ.2.2)) (e := .inl (g.1, zlen w j', .inl (va_cpy (fun i => zI σ j i) (fun i => zI σ j' i) i.toNatClampNeg i'.toNatClampNeg n.toNatClampNeg))) h.2.1.2.1 (by rw [zcell_I h.2.1.1 h.2.1.2.2]; congr 3; congr 1; funext q; show (if j' = j' then _ else _) = _; rw [if_pos rfl]) (fun q hq => by simp only [zcell, zfs, zfv, zI, zJ, zR, hq, if_false])
  rw [he] at hP hD
  exact ⟨hP, hD, hS⟩
/-! CONTRACTS AND CALLS -/
def zPre (D : va_G) (g : zG) (w : Nat) (ad : Nat → Nat) (σ : zSt) (sz : Nat) (U : State) : Prop := U.heap.size = sz ∧ va_P D vwCl (zW g w ad σ) U.heap ∧ va_K D vwCl (zT g) U ∧ va_D (fun _ => True) (zW g w ad σ)
def zPost (D : va_G) (g : zG) (w : Nat) (ad : Nat → Nat) (u : zSt) (t : State) : Prop := va_P D vwCl (zW g w ad u) t.heap
def zMi (l : Launch) (D : va_G) (g : zG) (w : Nat) (ad : Nat → Nat) (y : MethodName) (ws : List Cond) (rm : Room) (av : List Value) (σ : zSt) (r : Int32) (σ' : zSt) : Prop := ∀ sz : Nat, Met l y ws rm (va_Pc av (zPre D g w ad σ sz)) (va_Qi (fun (r' : Int32) (u : zSt) => r' = r ∧ u = σ') (zPost D g w ad) (va_A (zW g w ad σ) sz)) 0 0 (va_A (zW g w ad σ) sz)
def zMl (l : Launch) (D : va_G) (g : zG) (w : Nat) (ad : Nat → Nat) (y : MethodName) (ws : List Cond) (rm : Room) (av : List Value) (σ : zSt) (r : Int64) (σ' : zSt) : Prop := ∀ sz : Nat, Met l y ws rm (va_Pc av (zPre D g w ad σ sz)) (va_Ql (fun (r' : Int64) (u : zSt) => r' = r ∧ u = σ') (zPost D g w ad) (va_A (zW g w ad σ) sz)) 0 0 (va_A (zW g w ad σ) sz)
def zMv (l : Launch) (D : va_G) (g : zG) (w : Nat) (ad : Nat → Nat) (y : MethodName) (ws : List Cond) (rm : Room) (av : List Value) (σ : zSt) (σ' : zSt) : Prop := ∀ sz : Nat, Met l y ws rm (va_Pc av (zPre D g w ad σ sz)) (va_Qv (fun (u : zSt) => u = σ') (zPost D g w ad) (va_A (zW g w ad σ) sz)) 0 0 (va_A (zW g w ad σ) sz)
def zMr (l : Launch) (D : va_G) (g : zG) (w : Nat) (ad : Nat → Nat) (y : MethodName) (ws : List Cond) (rm : Room) (av : List Value) (σ : zSt) (r : Nat) (σ' : zSt) : Prop := ∀ sz : Nat, Met l y ws rm (va_Pc av (zPre D g w ad σ sz)) (va_Qr (fun (u : zSt) => u = σ') (fun u a t => a = ad r ∧ zPost D g w ad u t) (va_A (zW g w ad σ) sz)) 0 0 (va_A (zW g w ad σ) sz)
theorem zPre_blind {av : List Value} {sz : Nat} : FrameBlind (va_Pc av (zPre D g w ad σ sz)) := fun a U g mk q => by
  obtain ⟨q0, q1, qP, qK, qD⟩ := q
  exact ⟨q0, q1, qP, va_K.moved (u := U) (U := U.calling g mk a) (Vm.Alike.refl U.vm) qK, qD⟩
theorem zPre_at {av : List Value} (hK : va_K D vwCl (zT g) s) (hw : zH D g w ad A H0 σ H locs) : ∀ U : State, U.heap = H → s.WarmedH U.vm → va_Pc av (zPre D g w ad σ H.size) av.toArray U := fun U hU hW => ⟨rfl, by rw [hU], by rw [hU]; exact hw.1, va_K.moved hW.alike hK, hw.2.1.weaken (fun _ _ _ _ => trivial)⟩
theorem zfree (hw : zH D g w ad A H0 σ H locs) (hA : ∀ q, H0.size ≤ q → A q) : ∀ q, va_A (zW g w ad σ) H.size q → A q := by
  intro q h
  rcases h with ⟨k, e, h⟩ | h
  · exact hw.2.1.2 k (q, e) h
  · exact hA q (Nat.le_trans hw.2.2.1 h)
def zO (w b : Nat) (C : String) : Prop := b < znO w ∧ b < zN w ∧ ∃ (T : u_T) (N : Nat), vwCl[zcn w b]? = some (C, T, N)
theorem zrecv {b : Nat} {C : String} (hK : va_K D vwCl (zT g) s) (hw : zH D g w ad A H0 σ H locs) (hO : zO w b C) : ∃ cell : Cell, H[ad b]? = some cell ∧ cell.vm.isStatics = false ∧ s.vm.findClass C = some cell.cls := by
  obtain ⟨h1, h2, T, N, h3⟩ := hO
  exact va_recv hK hw.1 h3 (q0 := b) (by rw [zW_at h2, zcell_ob h1])
variable {y : MethodName} {bytes : ByteArray} {maxL nL n index : Nat} {ret : Option FieldType} {ws : List Cond} {rm : Room} {Ts : List Cond} {own C : String} {b : Nat} {As st0 : List Value} {σ' : zSt}
theorem z_cVi {r : Int32} (S : CallFix p m c cc nL s args Ts own) (hK : va_K D vwCl (zT g) s) (hw : zH D g w ad A H0 σ H locs) (hA : ∀ q, H0.size ≤ q → A q) (hM : zMi l D g w ad y ws rm (.ref (ad b) :: As) σ r σ') (cw : CallW R s args own C index y bytes maxL ret ws rm 0 0 n) (hO : zO w b C) (hn : As.length = n) (hsize : ls.size = nL) (hst : st0 = As.reverse ++ .ref (ad b) :: rest) (hroom : (rest.map fun v => v.category).sum ≤ 8) (hdg : decode cc pc = .ok (.invokevirtual index, 3)) (hf : cells ≤ R.cells ∧ slots ≤ R.slots)
    (kk : ∀ (H1 : Heap) (locs1 : List Loc), zH D g w ad A H0 σ' H1 locs1 → W p l e R s m args below meth c H1 locs1 cells slots Q (F0 m (pc + 3) ls (.int r :: rest))) : W p l e R s m args below meth c H locs cells slots Q (F0 m pc ls st0) :=
  va_calli (va_runV (As := As) (rest := rest) S (hM H.size) cw ⟨zPre_blind, zrecv hK hw hO, zPre_at hK hw⟩ rfl hn hsize hst (lv_room hroom) hdg hf) hw.2.2 (fun q _ h => zfree hw hA q h) (zfree hw hA) (fun r1 u t H1 locs1 ht hvm hp hB hz1 hk1 hS => by
    obtain ⟨rfl, rfl⟩ := hp
    exact kk H1 locs1 ⟨by rw [← ht]; exact hB, zD_mv _ hw.2.1, hS⟩)
theorem z_cVl {r : Int64} (S : CallFix p m c cc nL s args Ts own) (hK : va_K D vwCl (zT g) s) (hw : zH D g w ad A H0 σ H locs) (hA : ∀ q, H0.size ≤ q → A q) (hM : zMl l D g w ad y ws rm (.ref (ad b) :: As) σ r σ') (cw : CallW R s args own C index y bytes maxL ret ws rm 0 0 n) (hO : zO w b C) (hn : As.length = n) (hsize : ls.size = nL) (hst : st0 = As.reverse ++ .ref (ad b) :: rest) (hroom : (rest.map fun v => v.category).sum ≤ 8) (hdg : decode cc pc = .ok (.invokevirtual index, 3)) (hf : cells ≤ R.cells ∧ slots ≤ R.slots)
    (kk : ∀ (H1 : Heap) (locs1 : List Loc), zH D g w ad A H0 σ' H1 locs1 → W p l e R s m args below meth c H1 locs1 cells slots Q (F0 m (pc + 3) ls (.long r :: rest))) : W p l e R s m args below meth c H locs cells slots Q (F0 m pc ls st0) :=
  va_calll (va_runV (As := As) (rest := rest) S (hM H.size) cw ⟨zPre_blind, zrecv hK hw hO, zPre_at hK hw⟩ rfl hn hsize hst (lv_room hroom) hdg hf) hw.2.2 (fun q _ h => zfree hw hA q h) (zfree hw hA) (fun r1 u t H1 locs1 ht hvm hp hB hz1 hk1 hS => by
    obtain ⟨rfl, rfl⟩ := hp
    exact kk H1 locs1 ⟨by rw [← ht]; exact hB, zD_mv _ hw.2.1, hS⟩)
theorem z_cVv (S : CallFix p m c cc nL s args Ts own) (hK : va_K D vwCl (zT g) s) (hw : zH D g w ad A H0 σ H locs) (hA : ∀ q, H0.size ≤ q → A q) (hM : zMv l D g w ad y ws rm (.ref (ad b) :: As) σ σ') (cw : CallW R s args own C index y bytes maxL ret ws rm 0 0 n) (hO : zO w b C) (hn : As.length = n) (hsize : ls.size = nL) (hst : st0 = As.reverse ++ .ref (ad b) :: rest) (hroom : (rest.map fun v => v.category).sum ≤ 8) (hdg : decode cc pc = .ok (.invokevirtual index, 3)) (hf : cells ≤ R.cells ∧ slots ≤ R.slots)
    (kk : ∀ (H1 : Heap) (locs1 : List Loc), zH D g w ad A H0 σ' H1 locs1 → W p l e R s m args below meth c H1 locs1 cells slots Q (F0 m (pc + 3) ls rest)) : W p l e R s m args below meth c H locs cells slots Q (F0 m pc ls st0) :=
  va_callv (va_runV (As := As) (rest := rest) S (hM H.size) cw ⟨zPre_blind, zrecv hK hw hO, zPre_at hK hw⟩ rfl hn hsize hst (lv_room hroom) hdg hf) hw.2.2 (fun q _ h => zfree hw hA q h) (zfree hw hA) (fun u t H1 locs1 ht hvm hp hB hz1 hk1 hS => by
    subst hp
    exact kk H1 locs1 ⟨by rw [← ht]; exact hB, zD_mv _ hw.2.1, hS⟩)
theorem z_cVr {r : Nat} (S : CallFix p m c cc nL s args Ts own) (hK : va_K D vwCl (zT g) s) (hw : zH D g w ad A H0 σ H locs) (hA : ∀ q, H0.size ≤ q → A q) (hM : zMr l D g w ad y ws rm (.ref (ad b) :: As) σ r σ') (cw : CallW R s args own C index y bytes maxL ret ws rm 0 0 n) (hO : zO w b C) (hn : As.length = n) (hsize : ls.size = nL) (hst : st0 = As.reverse ++ .ref (ad b) :: rest) (hroom : (rest.map fun v => v.category).sum ≤ 8) (hdg : decode cc pc = .ok (.invokevirtual index, 3)) (hf : cells ≤ R.cells ∧ slots ≤ R.slots)
    (kk : ∀ (H1 : Heap) (locs1 : List Loc), zH D g w ad A H0 σ' H1 locs1 → W p l e R s m args below meth c H1 locs1 cells slots Q (F0 m (pc + 3) ls (.ref (ad r) :: rest))) : W p l e R s m args below meth c H locs cells slots Q (F0 m pc ls st0) :=
  va_callr (va_runV (As := As) (rest := rest) S (hM H.size) cw ⟨zPre_blind, zrecv hK hw hO, zPre_at hK hw⟩ rfl hn hsize hst (lv_room hroom) hdg hf) hw.2.2 (fun q _ h => zfree hw hA q h) (zfree hw hA) (fun u ra t H1 locs1 ht hvm hp hB hz1 hk1 hS => by
    subst hp
    obtain ⟨rfl, hB⟩ := hB
    exact kk H1 locs1 ⟨by rw [← ht]; exact hB, zD_mv _ hw.2.1, hS⟩)
theorem z_cSi {r : Int32} (S : CallFix p m c cc nL s args Ts own) (hK : va_K D vwCl (zT g) s) (hw : zH D g w ad A H0 σ H locs) (hA : ∀ q, H0.size ≤ q → A q) (hM : zMi l D g w ad y ws rm As σ r σ') (cw : CallB R s args own index y bytes maxL ret ws rm 0 0 n ∧ (Cond.static y).before args s = true) (hn : As.length = n) (hsize : ls.size = nL) (hst : st0 = As.reverse ++ rest) (hroom : (rest.map fun v => v.category).sum ≤ 8) (hdg : decode cc pc = .ok (.invokestatic index, 3)) (hf : cells ≤ R.cells ∧ slots ≤ R.slots)
    (kk : ∀ (H1 : Heap) (locs1 : List Loc), zH D g w ad A H0 σ' H1 locs1 → W p l e R s m args below meth c H1 locs1 cells slots Q (F0 m (pc + 3) ls (.int r :: rest))) : W p l e R s m args below meth c H locs cells slots Q (F0 m pc ls st0) :=
  va_calli (va_runS (As := As) (rest := rest) S (hM H.size) cw ⟨zPre_blind, zPre_at hK hw⟩ rfl hn hsize hst (lv_room hroom) hdg hf) hw.2.2 (fun q _ h => zfree hw hA q h) (zfree hw hA) (fun r1 u t H1 locs1 ht hvm hp hB hz1 hk1 hS => by
    obtain ⟨rfl, rfl⟩ := hp
    exact kk H1 locs1 ⟨by rw [← ht]; exact hB, zD_mv _ hw.2.1, hS⟩)
theorem z_cSl {r : Int64} (S : CallFix p m c cc nL s args Ts own) (hK : va_K D vwCl (zT g) s) (hw : zH D g w ad A H0 σ H locs) (hA : ∀ q, H0.size ≤ q → A q) (hM : zMl l D g w ad y ws rm As σ r σ') (cw : CallB R s args own index y bytes maxL ret ws rm 0 0 n ∧ (Cond.static y).before args s = true) (hn : As.length = n) (hsize : ls.size = nL) (hst : st0 = As.reverse ++ rest) (hroom : (rest.map fun v => v.category).sum ≤ 8) (hdg : decode cc pc = .ok (.invokestatic index, 3)) (hf : cells ≤ R.cells ∧ slots ≤ R.slots)
    (kk : ∀ (H1 : Heap) (locs1 : List Loc), zH D g w ad A H0 σ' H1 locs1 → W p l e R s m args below meth c H1 locs1 cells slots Q (F0 m (pc + 3) ls (.long r :: rest))) : W p l e R s m args below meth c H locs cells slots Q (F0 m pc ls st0) :=
  va_calll (va_runS (As := As) (rest := rest) S (hM H.size) cw ⟨zPre_blind, zPre_at hK hw⟩ rfl hn hsize hst (lv_room hroom) hdg hf) hw.2.2 (fun q _ h => zfree hw hA q h) (zfree hw hA) (fun r1 u t H1 locs1 ht hvm hp hB hz1 hk1 hS => by
    obtain ⟨rfl, rfl⟩ := hp
    exact kk H1 locs1 ⟨by rw [← ht]; exact hB, zD_mv _ hw.2.1, hS⟩)
theorem z_cSv (S : CallFix p m c cc nL s args Ts own) (hK : va_K D vwCl (zT g) s) (hw : zH D g w ad A H0 σ H locs) (hA : ∀ q, H0.size ≤ q → A q) (hM : zMv l D g w ad y ws rm As σ σ') (cw : CallB R s args own index y bytes maxL ret ws rm 0 0 n ∧ (Cond.static y).before args s = true) (hn : As.length = n) (hsize : ls.size = nL) (hst : st0 = As.reverse ++ rest) (hroom : (rest.map fun v => v.category).sum ≤ 8) (hdg : decode cc pc = .ok (.invokestatic index, 3)) (hf : cells ≤ R.cells ∧ slots ≤ R.slots)
    (kk : ∀ (H1 : Heap) (locs1 : List Loc), zH D g w ad A H0 σ' H1 locs1 → W p l e R s m args below meth c H1 locs1 cells slots Q (F0 m (pc + 3) ls rest)) : W p l e R s m args below meth c H locs cells slots Q (F0 m pc ls st0) :=
  va_callv (va_runS (As := As) (rest := rest) S (hM H.size) cw ⟨zPre_blind, zPre_at hK hw⟩ rfl hn hsize hst (lv_room hroom) hdg hf) hw.2.2 (fun q _ h => zfree hw hA q h) (zfree hw hA) (fun u t H1 locs1 ht hvm hp hB hz1 hk1 hS => by
    subst hp
    exact kk H1 locs1 ⟨by rw [← ht]; exact hB, zD_mv _ hw.2.1, hS⟩)
end ZROWS
