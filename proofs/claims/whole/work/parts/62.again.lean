/-! AGAIN -/
theorem bit01 (x : Int32) : x &&& 1 = 0 ∨ x &&& 1 = 1 := by
  have h : (x &&& 1).toBitVec.toNat < 2 := by
    rw [Int32.toBitVec_and, BitVec.toNat_and]
    show x.toBitVec.toNat &&& 1 < 2
    rw [Nat.and_one_is_mod]
    omega
  rcases (show (x &&& 1).toBitVec.toNat = 0 ∨ (x &&& 1).toBitVec.toNat = 1 by omega) with e | e
  · exact Or.inl (Int32.toBitVec_inj.mp (BitVec.eq_of_toNat_eq (by rw [e]; rfl)))
  · exact Or.inr (Int32.toBitVec_inj.mp (BitVec.eq_of_toNat_eq (by rw [e]; rfl)))
theorem sh_n7 : ∀ m, m < 7 → (1 : Int32) <<< (nI m &&& 31) = nI (2 ^ m) := by decide +kernel
section AGAIN
variable {σ τ : zSt} {n : Nat} {T : Nat → Nat → Nat → Nat} {c : Nat} {kd td : Nat → Nat} {v pl : Nat} {sp : Nat → Nat → Nat} {t : Nat} {tb tw th ts tm : Nat → Nat}
/-- minutes and gain of a set over the first j turns -/
def gmn (tm : Nat → Nat) (s : Int32) : Nat → Int32
  | 0 => 0
  | j + 1 => gmn tm s j + ((s >>> (nI j &&& 31)) &&& 1) * nI (tm j)
def ggn (ts tr : Nat → Nat) (s : Int32) : Nat → Int32
  | 0 => 0
  | j + 1 => ggn ts tr s j + (((s >>> (nI j &&& 31)) &&& 1) * nI (ts j)) * ((1000 : Int32) - nI (tr j))
theorem gb0 (k : Nat) : ((0 : Int32) >>> (nI k &&& 31)) &&& 1 = 0 := by simp
theorem gmn0 (k : Nat) : gmn tm 0 k = 0 := by
  induction k with
  | zero => rfl
  | succ k ih => rw [gmn, ih, gb0, Int32.zero_mul]; rfl
theorem ggn0 (tr : Nat → Nat) (k : Nat) : ggn ts tr 0 k = 0 := by
  induction k with
  | zero => rfl
  | succ k ih => rw [ggn, ih, gb0, Int32.zero_mul, Int32.zero_mul]; rfl
def gbs (tm ts tr : Nat → Nat) (t : Nat) (x : Int32) : Nat → Int32
  | 0 => 0
  | j + 1 => if x < gmn tm (nI (j + 1)) t then gbs tm ts tr t x j else if ggn ts tr (gbs tm ts tr t x j) t < ggn ts tr (nI (j + 1)) t then nI (j + 1) else if ggn ts tr (nI (j + 1)) t = ggn ts tr (gbs tm ts tr t x j) t then (if gmn tm (gbs tm ts tr t x j) t ≤ gmn tm (nI (j + 1)) t then gbs tm ts tr t x j else nI (j + 1)) else gbs tm ts tr t x j
theorem c_minutesOf (hU : pU σ τ n T c kd v pl sp t tb tw th ts tm) (s : Int32) : fX4_minutesOf σ s = some (gmn tm s t) := by
  have ht := hU.1
  unfold fX4_minutesOf
  rw [zl_run (body := fun a : Int32 × Int32 => bX4_minutesOf_4 σ s a.1 a.2) (a := ((0 : Int32), (0 : Int32))) (fun j => (gmn tm s j, nI j)) t (b := (gmn tm s t, nI t)) rfl ?_ ?_ (by omega)]
  · rfl
  · intro j hj
    show bX4_minutesOf_4 σ s (gmn tm s j) (nI j) = _
    unfold bX4_minutesOf_4
    have e : zrI 0 σ (73 + j) (4 : Int32) = some (zI σ (73 + j) 4) := zrI_n (k := 4) (zkLine j (by omega)) (by decide)
    rw [hU.2.1, i_nle hj (by omega), zrA_n (n := 6) (by decide) (by omega), Option.bind_some, show 72 + 1 + j = 73 + j by omega, e, Option.bind_some, (hU.2.2.2.2 j hj).2.1.2.2.2.2.1, nI_1]
    rfl
  · show bX4_minutesOf_4 σ s (gmn tm s t) (nI t) = _
    unfold bX4_minutesOf_4
    rw [hU.2.1, i_le (Nat.le_refl _) (by omega)]
theorem c_gainOf (hU : pU σ τ n T c kd v pl sp t tb tw th ts tm) (s : Int32) : fX4_gainOf σ s = some (ggn ts (fun u => tru n T pl sp (kd (tb u)) (tw u) (th u)) s t) := by
  have ht := hU.1
  unfold fX4_gainOf
  rw [zl_run (body := fun a : Int32 × Int32 => bX4_gainOf_4 σ s a.1 a.2) (a := ((0 : Int32), (0 : Int32))) (fun j => (ggn ts (fun u => tru n T pl sp (kd (tb u)) (tw u) (th u)) s j, nI j)) t (b := (ggn ts (fun u => tru n T pl sp (kd (tb u)) (tw u) (th u)) s t, nI t)) rfl ?_ ?_ (by omega)]
  · rfl
  · intro j hj
    show bX4_gainOf_4 σ s (ggn ts _ s j) (nI j) = _
    unfold bX4_gainOf_4
    have e : zrI 0 σ (73 + j) (3 : Int32) = some (zI σ (73 + j) 3) := zrI_n (k := 3) (zkLine j (by omega)) (by decide)
    have e5 : zrI 0 σ (73 + j) (5 : Int32) = some (zI σ (73 + j) 5) := zrI_n (k := 5) (zkLine j (by omega)) (by decide)
    rw [hU.2.1, i_nle hj (by omega), zrA_n (n := 6) (by decide) (by omega), Option.bind_some, show 72 + 1 + j = 73 + j by omega, e, Option.bind_some, Option.bind_some, e5, Option.bind_some, (hU.2.2.2.2 j hj).2.1.2.2.2.1, (hU.2.2.2.2 j hj).2.1.2.2.2.2.2, nI_1]
    rfl
  · show bX4_gainOf_4 σ s (ggn ts _ s t) (nI t) = _
    unfold bX4_gainOf_4
    rw [hU.2.1, i_le (Nat.le_refl _) (by omega)]
theorem m_gains (hT : pT σ τ n T) (hC : pC σ τ c kd td) (hW : pW σ τ n 1 pl sp) (hU : pU σ τ n T c kd 1 pl sp t tb tw th ts tm) (x y z u s : Int32) : zLp (fun a : Int32 × Int32 × Int32 => bX11_again_43 τ x y z u s a.1 a.2.1 a.2.2) zFU ((0 : Int32), (0 : Int32), (0 : Int32)) = some (ggn ts (fun u => tru n T pl sp (kd (tb u)) (tw u) (th u)) s t, gmn tm s t, nI t) := by
  have ht := hU.1
  refine zl_run (fun j => (ggn ts (fun u => tru n T pl sp (kd (tb u)) (tw u) (th u)) s j, gmn tm s j, nI j)) t rfl (fun j hj => ?_) ?_ (by omega)
  · show bX11_again_43 τ x y z u s (ggn ts _ s j) (gmn tm s j) (nI j) = _
    unfold bX11_again_43 fX11_has
    rw [hU.2.2.1, i_nle hj (by omega), m_truth hT hC hW hU hj, zrI_n (n := 6) (by decide) (by omega), zrI_n (n := 6) (by decide) (by omega), (hU.2.2.2.2 j hj).2.2.2.2.2.1, (hU.2.2.2.2 j hj).2.2.2.2.2.2, nI_1]
    rcases bit01 (s >>> (nI j &&& 31)) with b | b
    · rw [b, if_neg (show ¬ (0 : Int32) = 1 by decide), i00]
      show _ = some (Sum.inl (ggn ts _ s j + (((s >>> (nI j &&& 31)) &&& 1) * nI (ts j)) * ((1000 : Int32) - nI _), gmn tm s j + ((s >>> (nI j &&& 31)) &&& 1) * nI (tm j), nI (j + 1)))
      rw [b, Int32.zero_mul, Int32.zero_mul, Int32.zero_mul, Int32.add_zero, Int32.add_zero]
    · rw [b, if_pos (show (1 : Int32) = 1 from rfl), i10, Option.bind_some, Option.bind_some, Option.bind_some]
      show _ = some (Sum.inl (ggn ts _ s j + (((s >>> (nI j &&& 31)) &&& 1) * nI (ts j)) * ((1000 : Int32) - nI _), gmn tm s j + ((s >>> (nI j &&& 31)) &&& 1) * nI (tm j), nI (j + 1)))
      rw [b, Int32.one_mul, Int32.one_mul]
  · show bX11_again_43 τ x y z u s (ggn ts _ s t) (gmn tm s t) (nI t) = _
    unfold bX11_again_43
    rw [hU.2.2.1, i_le (Nat.le_refl _) (by omega)]
end AGAIN
theorem q_again {σ τ : zSt} (h : Inv σ τ) (x : Int32) : ∃ r, fX10_again σ x = some r ∧ fX11_again τ x = some r := by
  obtain ⟨n, T, c, kd, td, v, pl, sp, t, tb, tw, th, ts, tm, hA, hT, hC, hW, hU, hR, hX⟩ := h
  have ht := hU.1
  unfold fX10_again fX11_again fX11_within
  by_cases x0 : x < 0
  · rw [if_pos x0, if_pos x0, i00]
    exact ⟨_, rfl, rfl⟩
  rw [if_neg x0, if_neg x0]
  by_cases x1 : x ≤ 60
  case neg =>
    rw [if_neg x1, if_pos (show (60 : Int32) < x from Int32.not_le.mp x1), i00]
    exact ⟨_, rfl, rfl⟩
  rw [if_pos x1, if_neg (show ¬ (60 : Int32) < x from Int32.not_lt.mpr x1), i10]
  unfold fX4_bestSet
  have p2 : 2 ^ t ≤ 64 := Nat.pow_le_pow_right (n := 2) (by decide) ht
  have p1 : 1 ≤ 2 ^ t := Nat.one_le_two_pow
  generalize htr : (fun u => tru n T pl sp (kd (tb u)) (tw u) (th u)) = tr
  have cg : ∀ s, fX4_gainOf σ s = some (ggn ts tr s t) := fun s => by rw [← htr]; exact c_gainOf hU s
  rw [zl_run (body := fun a : Int32 × Int32 => bX4_bestSet_4 σ x a.1 a.2) (a := ((0 : Int32), (1 : Int32))) (fun j => (gbs tm ts tr t x j, nI (j + 1))) (2 ^ t - 1) (b := (gbs tm ts tr t x (2 ^ t - 1), nI (2 ^ t - 1 + 1))) rfl ?_ ?_ (by omega), zl_run (body := fun a : Int32 × Int32 × Int32 × Int32 => bX11_again_23 τ x a.1 a.2.1 a.2.2.1 a.2.2.2) (a := ((0 : Int32), (0 : Int32), (0 : Int32), (1 : Int32))) (fun j => (gbs tm ts tr t x j, ggn ts tr (gbs tm ts tr t x j) t, gmn tm (gbs tm ts tr t x j) t, nI (j + 1))) (2 ^ t - 1) (b := (gbs tm ts tr t x (2 ^ t - 1), ggn ts tr (gbs tm ts tr t x (2 ^ t - 1)) t, gmn tm (gbs tm ts tr t x (2 ^ t - 1)) t, nI (2 ^ t - 1 + 1))) ?_ ?_ ?_ (by omega)]
  · exact ⟨_, rfl, rfl⟩
  · show (gbs tm ts tr t x 0, ggn ts tr 0 t, gmn tm 0 t, nI 1) = _
    rw [gmn0, ggn0]
    rfl
  · intro j hj
    have t1 : 0 < t := by
      rcases Nat.eq_zero_or_pos t with e | e
      · rw [e] at hj; exact absurd hj (Nat.not_lt_zero _)
      · exact e
    have hv := hU.2.2.2.1 t1
    subst hv
    show bX11_again_23 τ x (gbs tm ts tr t x j) (ggn ts tr (gbs tm ts tr t x j) t) (gmn tm (gbs tm ts tr t x j) t) (nI (j + 1)) = _
    unfold bX11_again_23
    rw [hU.2.2.1, sh_n7 t (by omega), i_nle (by omega) (by omega), m_gains hT hC hW hU, htr, Option.bind_some, nI_1]
    have stp : gbs tm ts tr t x (j + 1) = if x < gmn tm (nI (j + 1)) t then gbs tm ts tr t x j else if ggn ts tr (gbs tm ts tr t x j) t < ggn ts tr (nI (j + 1)) t then nI (j + 1) else if ggn ts tr (nI (j + 1)) t = ggn ts tr (gbs tm ts tr t x j) t then (if gmn tm (gbs tm ts tr t x j) t ≤ gmn tm (nI (j + 1)) t then gbs tm ts tr t x j else nI (j + 1)) else gbs tm ts tr t x j := rfl
    rw [stp]
    split
    · rfl
    · split
      · rfl
      · split
        · split <;> rfl
        · rfl
  · show bX11_again_23 τ x _ _ _ (nI (2 ^ t - 1 + 1)) = _
    unfold bX11_again_23
    rw [hU.2.2.1, sh_n7 t (by omega), i_le (by omega) (by omega)]
  · intro j hj
    show bX4_bestSet_4 σ x (gbs tm ts tr t x j) (nI (j + 1)) = _
    unfold bX4_bestSet_4 fX4_isBetter
    rw [hU.2.1, sh_n7 t (by omega), i_nle (by omega) (by omega), c_minutesOf hU, c_minutesOf hU, cg, cg, Option.bind_some, Option.bind_some, Option.bind_some, Option.bind_some, Option.bind_some, nI_1]
    have stp : gbs tm ts tr t x (j + 1) = if x < gmn tm (nI (j + 1)) t then gbs tm ts tr t x j else if ggn ts tr (gbs tm ts tr t x j) t < ggn ts tr (nI (j + 1)) t then nI (j + 1) else if ggn ts tr (nI (j + 1)) t = ggn ts tr (gbs tm ts tr t x j) t then (if gmn tm (gbs tm ts tr t x j) t ≤ gmn tm (nI (j + 1)) t then gbs tm ts tr t x j else nI (j + 1)) else gbs tm ts tr t x j := rfl
    rw [stp]
    split
    · rfl
    · split
      · rw [Option.bind_some, i10]
      · split
        · split
          · rw [Option.bind_some, i00]
          · rw [Option.bind_some, i10]
        · rw [Option.bind_some, i00]
  · show bX4_bestSet_4 σ x _ (nI (2 ^ t - 1 + 1)) = _
    unfold bX4_bestSet_4
    rw [hU.2.1, sh_n7 t (by omega), i_le (by omega) (by omega)]
