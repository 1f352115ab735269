/-! SHIFTS, the landed side -/
section SHIFTC
def sto (a b l : Nat) : Nat := (a * 10 + b) * 2 + l
theorem c_state (a b l : Nat) : fX7_stateOf (nI a) (nI b) (nI l) = nI (sto a b l) := by
  unfold fX7_stateOf sto
  rw [show (10 : Int32) = nI 10 from rfl, show (2 : Int32) = nI 2 from rfl, pk_mul, nI_add, pk_mul, nI_add]
theorem c_first {s : Nat} (h : s < 200) : fX7_firstOf (nI s) = nI (s / 20) := by
  unfold fX7_firstOf
  exact pk_div (d := 20) (by omega) (by decide) (by decide)
theorem c_last {s : Nat} (h : s < 200) : fX7_lastOf (nI s) = nI (s % 2) := by
  unfold fX7_lastOf
  exact pk_rem (d := 2) (by omega) (by decide) (by decide)
theorem c_second {s : Nat} (h : s < 200) : fX7_secondOf (nI s) = nI (s / 2 % 10) := by
  unfold fX7_secondOf
  rw [show nI s / (2 : Int32) = nI (s / 2) from pk_div (d := 2) (by omega) (by decide) (by decide)]
  exact pk_rem (d := 10) (by omega) (by decide) (by decide)
theorem c_up : ∀ a, a < 10 → (if nI a + (1 : Int32) < (9 : Int32) then nI a + (1 : Int32) else (9 : Int32)) = nI (sMo a) := by decide +kernel
theorem c_dn : ∀ a, a < 10 → (if (0 : Int32) < nI a - (1 : Int32) then nI a - (1 : Int32) else (0 : Int32)) = nI (a - 1) := by decide +kernel
theorem c_sh : ∀ x, x < 19 → (nI x).toInt64 <<< ((40 : Int32).toInt64 &&& 63) = lN (x * 2 ^ 40) := by decide +kernel
theorem c_bit : ∀ x, x < 40 → (1 : Int64) <<< ((nI x).toInt64 &&& 63) = lN (2 ^ x) := by decide +kernel
/-- a value of the row: none yet, or a number from which the rest makes at least the least -/
def pVal (P : Nat → Nat) (tot B s : Nat) (x : Int64) : Prop := x = 9223372036854775807 ∨ ∃ u, x = lN u ∧ u ≤ B ∧ tot ≤ u + P s
def t1 (s : Nat) : Nat := sto (sMo (s / 20)) (s / 2 % 10 - 1) 0
def t2 (s : Nat) : Nat := sto (s / 20 - 1) (sMo (s / 2 % 10)) 1
def d1 (cs s : Nat) : Nat := (s / 20 + if s % 2 = 0 then 0 else cs) * 2 ^ 40
def d2 (cs k s : Nat) : Nat := (s / 2 % 10 + if s % 2 = 1 then 0 else cs) * 2 ^ 40 + 2 ^ k
theorem t1_lt {s : Nat} (h : s < 200) : t1 s < 200 := by have := sMo_le (a := s / 20); unfold t1 sto; omega
theorem t2_lt {s : Nat} (h : s < 200) : t2 s < 200 := by have := sMo_le (a := s / 2 % 10); unfold t2 sto; omega
theorem d1_le {cs s : Nat} (hc : cs ≤ 9) (h : s < 200) : d1 cs s ≤ 18 * 2 ^ 40 := by
  unfold d1
  refine Nat.mul_le_mul_right _ ?_
  split <;> omega
theorem d2_le {cs k s : Nat} (hc : cs ≤ 9) (hk : k < 40) : d2 cs k s ≤ 19 * 2 ^ 40 := by
  unfold d2
  have g1 : 2 ^ k ≤ 2 ^ 40 := Nat.pow_le_pow_right (by decide) (by omega)
  have g2 : (s / 2 % 10 + if s % 2 = 1 then 0 else cs) * 2 ^ 40 ≤ 18 * 2 ^ 40 := Nat.mul_le_mul_right _ (by split <;> omega)
  exact Nat.le_trans (Nat.add_le_add g2 g1) (by decide)
/-- the row's cells: p holds now, q next -/
def pRf (σ : zSt) (p q : Nat) : Prop := ((p = 80 ∧ q = 81) ∨ (p = 81 ∧ q = 80)) ∧ zR σ 9 0 = p ∧ zR σ 9 1 = q
theorem c_first1 {σ : zSt} {p q s u cs : Nat} (hR : pRf σ p q) (hs : s < 200) (hc : cs ≤ 9) (hu : zJ σ p s = lN u) : fX7_workFirst σ (nI s) (nI cs) = some (zwJ σ q (t1 s) (if lN (u + d1 cs s) < zJ σ q (t1 s) then lN (u + d1 cs s) else zJ σ q (t1 s))) := by
  obtain ⟨e, h1, h2⟩ := hR
  have kp : zkJ 0 p 200 := by rcases e with e | e <;> rw [e.1] <;> decide
  have kq : zkJ 0 q 200 := by rcases e with e | e <;> rw [e.2] <;> decide
  have st : fX7_stateOf (nI (sMo (s / 20))) (nI (s / 2 % 10 - 1)) (0 : Int32) = nI (t1 s) := c_state _ _ 0
  have lt := t1_lt hs
  unfold fX7_workFirst
  rw [c_first hs, c_second hs, c_last hs, c_up _ (by omega), c_dn _ (by omega), h1, h2, st, zrJ_n kq lt, zrJ_n kp hs, Option.bind_some, Option.bind_some, Option.bind_some, Option.bind_some, zsJ_n kq lt, zsJ_n kq lt, Option.bind_some, Option.bind_some, hu]
  by_cases e : s % 2 = 0
  · rw [e, if_pos (show nI 0 = (0 : Int32) from rfl), show nI (s / 20) + (0 : Int32) = nI (s / 20 + 0) from nI_add _ 0, c_sh _ (by omega), lN_add]
    unfold d1
    rw [if_pos e]
  · rw [show (s % 2) = 1 by omega, if_neg (show ¬ nI 1 = (0 : Int32) by decide), nI_add, c_sh _ (by omega), lN_add]
    unfold d1
    rw [if_neg e]
theorem c_second1 {σ : zSt} {p q s u cs k : Nat} (hR : pRf σ p q) (hs : s < 200) (hc : cs ≤ 9) (hu : zJ σ p s = lN u) : fX7_workSecond σ (nI s) (nI cs) (lN (2 ^ k)) = some (zwJ σ q (t2 s) (if lN (u + d2 cs k s) < zJ σ q (t2 s) then lN (u + d2 cs k s) else zJ σ q (t2 s))) := by
  obtain ⟨e, h1, h2⟩ := hR
  have kp : zkJ 0 p 200 := by rcases e with e | e <;> rw [e.1] <;> decide
  have kq : zkJ 0 q 200 := by rcases e with e | e <;> rw [e.2] <;> decide
  have st : fX7_stateOf (nI (s / 20 - 1)) (nI (sMo (s / 2 % 10))) (1 : Int32) = nI (t2 s) := c_state _ _ 1
  have lt := t2_lt hs
  unfold fX7_workSecond
  rw [c_first hs, c_second hs, c_last hs, c_up _ (by omega), c_dn _ (by omega), h1, h2, st, zrJ_n kq lt, zrJ_n kp hs, Option.bind_some, Option.bind_some, Option.bind_some, Option.bind_some, zsJ_n kq lt, zsJ_n kq lt, Option.bind_some, Option.bind_some, hu]
  by_cases e : s % 2 = 1
  · rw [e, if_pos (show nI 1 = (1 : Int32) from rfl), show nI (s / 2 % 10) + (0 : Int32) = nI (s / 2 % 10 + 0) from nI_add _ 0, c_sh _ (by omega), lN_add, lN_add, Nat.add_assoc]
    unfold d2
    rw [if_pos e]
  · rw [show (s % 2) = 0 by omega, if_neg (show ¬ nI 0 = (1 : Int32) by decide), nI_add, c_sh _ (by omega), lN_add, lN_add, Nat.add_assoc]
    unfold d2
    rw [if_neg e]
/-- the least of a candidate and what is there -/
theorem relax {P : Nat → Nat} {tot B t w : Nat} {x : Int64} (hB : B < 2 ^ 60) (hx : pVal P tot B t x) (hw : w ≤ B) (ht : tot ≤ w + P t) : (∃ v, (if lN w < x then lN w else x) = lN v ∧ v ≤ B ∧ tot ≤ v + P t ∧ v ≤ w) ∧ ∀ v, x = lN v → v ≤ B → ∃ v', (if lN w < x then lN w else x) = lN v' ∧ v' ≤ v := by
  have mx : (9223372036854775807 : Int64) = lN 9223372036854775807 := rfl
  rcases hx with e | ⟨u, e, h1, h2⟩
  · subst e
    rw [mx, if_pos ((pk_lLT (by omega) (by decide)).mpr (by omega))]
    refine ⟨⟨w, rfl, hw, ht, Nat.le_refl _⟩, fun v hv hvB => absurd ((pk_lEQ (by decide) (by omega)).mp hv) (by omega)⟩
  · subst e
    by_cases q : w < u
    · rw [if_pos ((pk_lLT (by omega) (by omega)).mpr q)]
      refine ⟨⟨w, rfl, hw, ht, Nat.le_refl _⟩, fun v hv hvB => ⟨w, rfl, ?_⟩⟩
      have := (pk_lEQ (by omega) (by omega)).mp hv
      omega
    · rw [if_neg (fun z => q ((pk_lLT (by omega) (by omega)).mp z))]
      exact ⟨⟨u, rfl, h1, h2, by omega⟩, fun v hv hvB => ⟨v, hv, Nat.le_refl _⟩⟩
end SHIFTC
