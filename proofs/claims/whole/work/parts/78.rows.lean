/-! READING A TEXT: a word's digits, a table -/
section ROWS
def pDg (n : Nat) (ρ υ : zSt) (r : Nat) : Prop := ∃ d : Nat → Nat, rowOK n d ∧ ∀ b, b < n → zI ρ (19 + r) b = nI (d b) ∧ zI υ 5 (6 * r + b) = nI (d b)
def pKe (r : Nat) (ρ υ ρ' υ' : zSt) : Prop := (∀ c b, ¬ c = 2 → ¬ c = 19 + r → zI ρ' c b = zI ρ c b) ∧ ∀ q, ¬ (6 * r ≤ q ∧ q < 6 * r + 6) → zI υ' 5 q = zI υ 5 q
theorem pDg.keep {n r r' : Nat} {ρ υ ρ' υ' : zSt} (h : pDg n ρ υ r') (hk : pKe r ρ υ ρ' υ') (hn : n ≤ 6) (hne : r' ≠ r) : pDg n ρ' υ' r' := by
  obtain ⟨d, h1, h2⟩ := h
  refine ⟨d, h1, fun b hb => ?_⟩
  rw [hk.1 _ _ (by omega) (by omega), hk.2 _ (by omega)]
  exact h2 b hb
variable {σ τ : zSt} {k i E : Nat} {x y : Int32} {ρ υ : zSt} {p : Nat}
theorem pRd.step (h : pRd σ τ k i E x y ρ υ p) (hp : p < E) {r j m : Nat} (hr : r < 12) (v : Int32) : pRd σ τ k i E x y (zwI (zwI ρ 2 5 (nI (p + 1))) (19 + r) j v) (zwI (zwI υ 5 m v) 0 7 (nI (120 * k + (p + 1)))) (p + 1) := by
  obtain ⟨h1, h2, h3, h4, h5, h6, h7, h8, h9, h10, h11, h12⟩ := h
  refine ⟨hp, h2, ?_, ?_, ?_, ?_, ?_, zI_self, fun c q hc hd => ?_, h10, h11, fun c q hc hd => ?_⟩
  · rw [zI_ne (by omega), zI_ne (by omega)]; exact h3
  · rw [zI_ne (by omega), zI_self]
  · rw [zI_ne (by omega), zI_ne (by omega)]; exact h5
  · rw [zI_ne (by omega), zI_ne (by omega)]; exact h6
  · rw [zI_ne (by omega), zI_ne (by omega)]; exact h7
  · rw [zI_ne (by omega), zI_ne (by omega)]; exact h9 c q hc hd
  · rw [zI_ne (by omega), zI_ne (by omega)]; exact h12 c q hc hd
theorem c_word16 {n s j r : Nat} (hj : j < n) (hn : n ≤ 6) (hs : s ≤ 12) : bX5_takesWord_16 (19 + r) (nI n) (nI s) (nI j) ρ = (fX5_takeDigit ρ (nI (if s = 0 ∧ j + 1 = n then 1 else 0)) (nI (if 12 - s < 9 then 12 - s else 9))).bind fun t => if (0 : Int32) ≤ t.1 then (zsI 0 t.2 (19 + r) (nI j) t.1).bind fun s' => some (Sum.inl (nI s + t.1, nI j + 1, s')) else some (Sum.inr (Sum.inr ((0 : Int32), t.2))) := by
  have hh : (if (12 : Int32) - nI s < (9 : Int32) then (12 : Int32) - nI s else (9 : Int32)) = nI (if 12 - s < 9 then 12 - s else 9) := by
    rw [show (12 : Int32) = nI 12 from rfl, show (9 : Int32) = nI 9 from rfl, pk_sub hs]
    by_cases e : 12 - s < 9
    · rw [i_lt e (by decide), if_pos e]
    · rw [i_nlt (by omega) (by omega), if_neg e]
  unfold bX5_takesWord_16
  rw [i_nle hj (by omega), hh]
  by_cases e0 : s = 0
  · subst e0
    rw [if_pos (show nI 0 = (0 : Int32) from rfl), show (1 : Int32) = nI 1 from rfl, pk_sub (show 1 ≤ n by omega)]
    by_cases e1 : j = n - 1
    · rw [i_eq e1, if_pos (show 0 = 0 ∧ j + 1 = n from ⟨rfl, by omega⟩)]
    · rw [i_ne e1 (by omega) (by omega), if_neg (show ¬ (0 = 0 ∧ j + 1 = n) from fun q => e1 (by omega))]
      rfl
  · rw [if_neg (nI_ne0 (by omega) (by omega)), if_neg (show ¬ (s = 0 ∧ j + 1 = n) from fun q => e0 q.1)]
    rfl
theorem r_word (h : pRd σ τ k i E x y ρ υ p) (hk : k < 4) (hE : E ≤ 120) (hcell : ∀ i, i < 120 → zI σ (12 + k) i = zI τ 3 (120 * k + i)) {w a n : Nat} (hw : w < 2) (ha : a < n) (hn : n ≤ 6) : ∃ b b', zLp (fun s : Int32 × Int32 × zSt => bX5_takesWord_16 (19 + (6 * w + a)) (nI n) s.1 s.2.1 s.2.2) zFU ((0 : Int32), (0 : Int32), ρ) = some b ∧ zLp (fun s : Int32 × Int32 × zSt => bX11_readRows_37 (nI (36 * w)) (nI n) (nI (120 * k + E)) (nI a) s.1 s.2.1 s.2.2) zFU ((0 : Int32), (0 : Int32), υ) = some b' ∧ ((∃ s j ρ' υ' p', b = .inl (s, j, ρ') ∧ b' = .inl (s, j, υ') ∧ pRd σ τ k i E x y ρ' υ' p' ∧ pDg n ρ' υ' (6 * w + a) ∧ pKe (6 * w + a) ρ υ ρ' υ') ∨ (∃ ρ' υ' p', b = .inr (0, ρ') ∧ b' = .inr (0, υ') ∧ pRd σ τ k i E x y ρ' υ' p')) := by
  have r12 : 6 * w + a < 12 := by omega
  have hp120 := h.1
  generalize hd : (fun b => (zI σ (12 + k) (p + b)).toNatClampNeg - 48) = d
  refine zl_two (B := fun s : Int32 × Int32 × zSt => bX5_takesWord_16 (19 + (6 * w + a)) (nI n) s.1 s.2.1 s.2.2) (B' := fun s : Int32 × Int32 × zSt => bX11_readRows_37 (nI (36 * w)) (nI n) (nI (120 * k + E)) (nI a) s.1 s.2.1 s.2.2) (fun j s s' => s.1 = nI (sm j d) ∧ s'.1 = nI (sm j d) ∧ s.2.1 = nI j ∧ s'.2.1 = nI j ∧ sm j d ≤ 12 ∧ (j = n → 1 ≤ sm n d) ∧ pRd σ τ k i E x y s.2.2 s'.2.2 (p + j) ∧ (∀ b, b < j → d b ≤ 9 ∧ zI s.2.2 (19 + (6 * w + a)) b = nI (d b) ∧ zI s'.2.2 5 (6 * (6 * w + a) + b) = nI (d b)) ∧ pKe (6 * w + a) ρ υ s.2.2 s'.2.2) n _ ⟨rfl, rfl, rfl, rfl, Nat.zero_le _, fun q => by omega, h, fun b hb => absurd hb (Nat.not_lt_zero _), fun _ _ _ _ => rfl, fun _ _ => rfl⟩ (fun j s s' hj hI => ?_) (fun s s' hI => ?_) (by omega)
  · obtain ⟨s1, s2, ρ1⟩ := s
    obtain ⟨t1, t2, υ1⟩ := s'
    obtain ⟨g1, g2, g3, g4, g5, g6, g7, g8, g9⟩ := hI
    have g1 : s1 = nI (sm j d) := g1
    have g2 : t1 = nI (sm j d) := g2
    have g3 : s2 = nI j := g3
    have g4 : t2 = nI j := g4
    subst g1 g2 g3 g4
    have g7 : pRd σ τ k i E x y ρ1 υ1 (p + j) := g7
    have e7 : zI υ1 0 7 = nI (120 * k + (p + j)) := g7.2.2.2.2.2.2.2.1
    have s1 : sm (j + 1) d = sm j d + d j := rfl
    have bC := c_word16 (ρ := ρ1) (r := 6 * w + a) hj hn g5
    show (∃ c c', bX5_takesWord_16 (19 + (6 * w + a)) (nI n) (nI (sm j d)) (nI j) ρ1 = some (.inl c) ∧ bX11_readRows_37 (nI (36 * w)) (nI n) (nI (120 * k + E)) (nI a) (nI (sm j d)) (nI j) υ1 = some (.inl c') ∧ _) ∨ (∃ b b', bX5_takesWord_16 (19 + (6 * w + a)) (nI n) (nI (sm j d)) (nI j) ρ1 = some (.inr b) ∧ bX11_readRows_37 (nI (36 * w)) (nI n) (nI (120 * k + E)) (nI a) (nI (sm j d)) (nI j) υ1 = some (.inr b') ∧ _)
    rcases r_digit g7 hk hE hcell with ⟨v, hv, hpE, ev, m1, c1⟩ | ⟨m1, c1⟩
    case inr =>
      rw [bC, c1 _ _ (by split <;> omega) (by split <;> omega), Option.bind_some, if_neg (show ¬ (0 : Int32) ≤ ((-1 : Int32), ρ1).1 from (show ¬ (0 : Int32) ≤ (-1 : Int32) by decide))]
      unfold bX11_readRows_37
      rw [i_nle hj (by omega), e7, m1, Option.bind_some, if_pos rfl]
      exact Or.inr ⟨_, _, rfl, rfl, Or.inr ⟨ρ1, υ1, _, rfl, rfl, g7⟩⟩
    have dj : d j = v := by
      rw [← hd]
      show (zI σ (12 + k) (p + j)).toNatClampNeg - 48 = v
      rw [ev, nI_clamp (by omega)]
      omega
    rw [dj] at s1
    have bM : bX11_readRows_37 (nI (36 * w)) (nI n) (nI (120 * k + E)) (nI a) (nI (sm j d)) (nI j) υ1 = if 12 < sm j d + v then some (Sum.inr (Sum.inr ((0 : Int32), υ1))) else if j + 1 = n ∧ sm j d + v = 0 then some (Sum.inr (Sum.inr ((0 : Int32), υ1))) else some (Sum.inl (nI (sm j d + v), nI (j + 1), zwI (zwI υ1 5 (6 * (6 * w + a) + j) (nI v)) 0 7 (nI (120 * k + (p + j + 1))))) := by
      have ix : (nI (36 * w) + ((6 : Int32) * nI a)) + nI j = nI (6 * (6 * w + a) + j) := by
        rw [show (6 : Int32) = nI 6 from rfl, pk_mul, nI_add, nI_add]
        congr 1
        omega
      have wr : ((zsI 1 υ1 5 (nI (6 * (6 * w + a) + j)) (nI v)).bind fun s7 => some (Sum.inl (α := Int32 × Int32 × zSt) (β := (Int32 × Int32 × zSt) ⊕ (Int32 × zSt)) (nI (sm j d + v), nI (j + 1), zwI s7 0 7 ((zI s7 0 7) + (1 : Int32))))) = some (Sum.inl (nI (sm j d + v), nI (j + 1), zwI (zwI υ1 5 (6 * (6 * w + a) + j) (nI v)) 0 7 (nI (120 * k + (p + j + 1))))) := by
        rw [zsI_n (n := 72) (by decide) (by omega), Option.bind_some, zI_ne (by omega), e7, nI_1, show 120 * k + (p + j) + 1 = 120 * k + (p + j + 1) by omega]
      unfold bX11_readRows_37
      rw [i_nle hj (by omega), e7, m1, Option.bind_some, if_neg (nI_m9 (by omega)), nI_add, ix, nI_1, show (12 : Int32) = nI 12 from rfl, show (1 : Int32) = nI 1 from rfl, pk_sub (show 1 ≤ n by omega)]
      by_cases q1 : 12 < sm j d + v
      · rw [i_lt q1 (by omega), if_pos q1]
      rw [i_nlt (by omega) (by omega), if_neg q1]
      by_cases q2 : j = n - 1
      · rw [i_eq q2]
        by_cases q3 : sm j d + v = 0
        · rw [q3, if_pos (show nI 0 = (0 : Int32) from rfl), if_pos ⟨by omega, rfl⟩]
        · rw [if_neg (nI_ne0 (by omega) (by omega)), if_neg (fun q => q3 q.2)]
          exact wr
      · rw [i_ne q2 (by omega) (by omega), if_neg (fun q => q2 (by omega))]
        exact wr
    have bC2 : bX5_takesWord_16 (19 + (6 * w + a)) (nI n) (nI (sm j d)) (nI j) ρ1 = if 12 < sm j d + v then some (Sum.inr (Sum.inr ((0 : Int32), ρ1))) else if j + 1 = n ∧ sm j d + v = 0 then some (Sum.inr (Sum.inr ((0 : Int32), ρ1))) else some (Sum.inl (nI (sm j d + v), nI (j + 1), zwI (zwI ρ1 2 5 (nI (p + j + 1))) (19 + (6 * w + a)) j (nI v))) := by
      rw [bC, c1 _ _ (by split <;> omega) (by split <;> omega)]
      by_cases q1 : 12 < sm j d + v
      · rw [if_pos q1, if_neg (show ¬ ((if sm j d = 0 ∧ j + 1 = n then 1 else 0) ≤ v ∧ v ≤ if 12 - sm j d < 9 then 12 - sm j d else 9) from fun q => by
          have := q.2
          split at this <;> omega), Option.bind_some, if_neg (show ¬ (0 : Int32) ≤ ((-1 : Int32), ρ1).1 from (show ¬ (0 : Int32) ≤ (-1 : Int32) by decide))]
      rw [if_neg q1]
      by_cases q2 : j + 1 = n ∧ sm j d + v = 0
      · rw [if_pos q2, if_neg (show ¬ ((if sm j d = 0 ∧ j + 1 = n then 1 else 0) ≤ v ∧ v ≤ if 12 - sm j d < 9 then 12 - sm j d else 9) from fun q => by
          have := q.1
          rw [if_pos (by omega)] at this
          omega), Option.bind_some, if_neg (show ¬ (0 : Int32) ≤ ((-1 : Int32), ρ1).1 from (show ¬ (0 : Int32) ≤ (-1 : Int32) by decide))]
      · rw [if_neg q2, if_pos (show ((if sm j d = 0 ∧ j + 1 = n then 1 else 0) ≤ v ∧ v ≤ if 12 - sm j d < 9 then 12 - sm j d else 9) from by
          constructor
          · split <;> omega
          · split <;> omega), Option.bind_some, if_pos (show (0 : Int32) ≤ (nI v, zwI ρ1 2 5 (nI (p + j + 1))).1 from nI_pos' (by omega))]
        show (zsI 0 (zwI ρ1 2 5 (nI (p + j + 1))) (19 + (6 * w + a)) (nI j) (nI v)).bind (fun s' => some (Sum.inl (nI (sm j d) + nI v, nI j + 1, s'))) = _
        rw [zsI_n (zkDig _ r12) (by omega), Option.bind_some, nI_add, nI_1]
    rw [bM, bC2]
    by_cases q1 : 12 < sm j d + v
    · rw [if_pos q1, if_pos q1]
      exact Or.inr ⟨_, _, rfl, rfl, Or.inr ⟨ρ1, υ1, _, rfl, rfl, g7⟩⟩
    rw [if_neg q1, if_neg q1]
    by_cases q2 : j + 1 = n ∧ sm j d + v = 0
    · rw [if_pos q2, if_pos q2]
      exact Or.inr ⟨_, _, rfl, rfl, Or.inr ⟨ρ1, υ1, _, rfl, rfl, g7⟩⟩
    rw [if_neg q2, if_neg q2]
    refine Or.inl ⟨_, _, rfl, rfl, by rw [s1], by rw [s1], rfl, rfl, by omega, fun q => by rw [← q, s1]; omega, g7.step hpE r12 (nI v), fun b hb => ?_, fun c b hc hc2 => ?_, fun q hq => ?_⟩
    · show d b ≤ 9 ∧ zI (zwI (zwI ρ1 2 5 _) (19 + (6 * w + a)) j (nI v)) (19 + (6 * w + a)) b = nI (d b) ∧ zI (zwI (zwI υ1 5 (6 * (6 * w + a) + j) (nI v)) 0 7 _) 5 (6 * (6 * w + a) + b) = nI (d b)
      by_cases e : b = j
      · subst e
        rw [zI_self, zI_ne (by omega), zI_self, dj]
        exact ⟨hv, rfl, rfl⟩
      · rw [zI_ne (by omega), zI_ne (by omega), zI_ne (by omega), zI_ne (by omega)]
        exact g8 b (by omega)
    · show zI (zwI (zwI ρ1 2 5 _) (19 + (6 * w + a)) j (nI v)) c b = _
      rw [zI_ne (by omega), zI_ne (by omega)]
      exact g9.1 c b hc hc2
    · show zI (zwI (zwI υ1 5 (6 * (6 * w + a) + j) (nI v)) 0 7 _) 5 q = _
      rw [zI_ne (by omega), zI_ne (by omega)]
      exact g9.2 q hq
  · obtain ⟨s1, s2, ρ1⟩ := s
    obtain ⟨t1, t2, υ1⟩ := s'
    obtain ⟨g1, g2, g3, g4, g5, g6, g7, g8, g9⟩ := hI
    have g1 : s1 = nI (sm n d) := g1
    have g2 : t1 = nI (sm n d) := g2
    have g3 : s2 = nI n := g3
    have g4 : t2 = nI n := g4
    subst g1 g2 g3 g4
    refine ⟨.inl (nI (sm n d), nI n, ρ1), .inl (nI (sm n d), nI n, υ1), ?_, ?_, Or.inl ⟨_, _, ρ1, υ1, _, rfl, rfl, g7, ⟨d, ⟨fun b hb => (g8 b hb).1, g6 rfl, g5⟩, fun b hb => (g8 b hb).2⟩, g9⟩⟩
    · show bX5_takesWord_16 (19 + (6 * w + a)) (nI n) (nI (sm n d)) (nI n) ρ1 = _
      unfold bX5_takesWord_16
      rw [i_le (Nat.le_refl _) (by omega)]
    · show bX11_readRows_37 (nI (36 * w)) (nI n) (nI (120 * k + E)) (nI a) (nI (sm n d)) (nI n) υ1 = _
      unfold bX11_readRows_37
      rw [i_le (Nat.le_refl _) (by omega)]
theorem pKe.sign {r : Nat} {ρ' υ' : zSt} (h : pKe r (zwI ρ 2 5 x) (zwI υ 0 7 y) ρ' υ') : pKe r ρ υ ρ' υ' := ⟨fun c b hc hd => by rw [h.1 c b hc hd, zI_ne (fun q => hc q.1)], fun q hq => by rw [h.2 q hq, zI_ne (by omega)]⟩
theorem r_row (h : pRd σ τ k i E x y ρ υ p) (hk : k < 4) (hE : E ≤ 120) (hcell : ∀ i, i < 120 → zI σ (12 + k) i = zI τ 3 (120 * k + i)) {w a n : Nat} (hw : w < 2) (ha : a < n) (hn : n ≤ 6) : (∃ ρ' υ' p', bX5_takesTable_2 (nI (6 * w)) (nI n) (nI a) ρ = some (.inl (nI (a + 1), ρ')) ∧ bX11_readRows_3 (nI (36 * w)) (nI n) (nI (120 * k + E)) (nI a) υ = some (.inl (nI (a + 1), υ')) ∧ pRd σ τ k i E x y ρ' υ' p' ∧ pDg n ρ' υ' (6 * w + a) ∧ pKe (6 * w + a) ρ υ ρ' υ') ∨ (∃ ρ' υ' p', bX5_takesTable_2 (nI (6 * w)) (nI n) (nI a) ρ = some (.inr (.inr (0, ρ'))) ∧ bX11_readRows_3 (nI (36 * w)) (nI n) (nI (120 * k + E)) (nI a) υ = some (.inr (.inr (0, υ'))) ∧ pRd σ τ k i E x y ρ' υ' p') := by
  have e7 : zI υ 0 7 = nI (120 * k + p) := h.2.2.2.2.2.2.2.1
  unfold bX5_takesTable_2 bX11_readRows_3 fX5_takesWord
  rw [i_nle ha (by omega), i_nle ha (by omega), nI_add, zrA_n (n := 12) (by decide) (by omega), Option.bind_some, e7, nI_1, nI_1, show 18 + 1 + (6 * w + a) = 19 + (6 * w + a) by omega]
  rcases r_sign h hk hE hcell 59 with ⟨hp, s1, s2⟩ | ⟨s1, s2⟩
  case inr =>
    rw [s1, s2, Option.bind_some, Option.bind_some]
    exact Or.inr ⟨ρ, υ, p, rfl, rfl, h⟩
  rw [s1, s2, Option.bind_some, Option.bind_some]
  obtain ⟨b, b', l1, l2, l3⟩ := r_word (h.adv hp) hk hE hcell hw ha hn
  rw [i10, show 120 * k + p + 1 = 120 * k + (p + 1) by omega, l2, Option.bind_some]
  show (∃ ρ' υ' p', ((zLp (fun s : Int32 × Int32 × zSt => bX5_takesWord_16 (19 + (6 * w + a)) (nI n) s.1 s.2.1 s.2.2) zFU ((0 : Int32), (0 : Int32), zwI ρ 2 5 (nI (p + 1)))).bind _).bind _ = _ ∧ _) ∨ (∃ ρ' υ' p', ((zLp (fun s : Int32 × Int32 × zSt => bX5_takesWord_16 (19 + (6 * w + a)) (nI n) s.1 s.2.1 s.2.2) zFU ((0 : Int32), (0 : Int32), zwI ρ 2 5 (nI (p + 1)))).bind _).bind _ = _ ∧ _)
  rw [l1, Option.bind_some]
  rcases l3 with ⟨s, j, ρ', υ', p', rfl, rfl, q1, q2, q3⟩ | ⟨ρ', υ', p', rfl, rfl, q1⟩
  · exact Or.inl ⟨ρ', υ', p', rfl, rfl, q1, q2, q3.sign⟩
  · exact Or.inr ⟨ρ', υ', p', rfl, rfl, q1⟩
/-- a table: n rows -/
theorem r_table (h : pRd σ τ k i E x y ρ υ p) (hk : k < 4) (hE : E ≤ 120) (hcell : ∀ i, i < 120 → zI σ (12 + k) i = zI τ 3 (120 * k + i)) {w n : Nat} (hw : w < 2) (hn : n ≤ 6) : (∃ ρ' υ' p', fX5_takesTable ρ (nI (6 * w)) (nI n) = some (1, ρ') ∧ fX11_readRows υ (nI (36 * w)) (nI n) (nI (120 * k + E)) = some (1, υ') ∧ pRd σ τ k i E x y ρ' υ' p' ∧ (∀ a, a < n → pDg n ρ' υ' (6 * w + a)) ∧ (∀ r, ¬ (6 * w ≤ r ∧ r < 6 * w + 6) → pDg n ρ υ r → pDg n ρ' υ' r)) ∨ (∃ ρ' υ' p', fX5_takesTable ρ (nI (6 * w)) (nI n) = some (0, ρ') ∧ fX11_readRows υ (nI (36 * w)) (nI n) (nI (120 * k + E)) = some (0, υ') ∧ pRd σ τ k i E x y ρ' υ' p') := by
  obtain ⟨b, b', l1, l2, l3⟩ : ∃ b b', zLp (fun s : Int32 × zSt => bX5_takesTable_2 (nI (6 * w)) (nI n) s.1 s.2) zFU ((0 : Int32), ρ) = some b ∧ zLp (fun s : Int32 × zSt => bX11_readRows_3 (nI (36 * w)) (nI n) (nI (120 * k + E)) s.1 s.2) zFU ((0 : Int32), υ) = some b' ∧ ((∃ j ρ' υ' p', b = .inl (j, ρ') ∧ b' = .inl (j, υ') ∧ pRd σ τ k i E x y ρ' υ' p' ∧ (∀ a, a < n → pDg n ρ' υ' (6 * w + a)) ∧ (∀ r, ¬ (6 * w ≤ r ∧ r < 6 * w + 6) → pDg n ρ υ r → pDg n ρ' υ' r)) ∨ (∃ ρ' υ' p', b = .inr (0, ρ') ∧ b' = .inr (0, υ') ∧ pRd σ τ k i E x y ρ' υ' p')) := by
    refine zl_two (B := fun s : Int32 × zSt => bX5_takesTable_2 (nI (6 * w)) (nI n) s.1 s.2) (B' := fun s : Int32 × zSt => bX11_readRows_3 (nI (36 * w)) (nI n) (nI (120 * k + E)) s.1 s.2) (fun j s s' => s.1 = nI j ∧ s'.1 = nI j ∧ ∃ p', pRd σ τ k i E x y s.2 s'.2 p' ∧ (∀ a, a < j → pDg n s.2 s'.2 (6 * w + a)) ∧ (∀ r, ¬ (6 * w ≤ r ∧ r < 6 * w + 6) → pDg n ρ υ r → pDg n s.2 s'.2 r)) n _ ⟨rfl, rfl, p, h, fun a ha => absurd ha (Nat.not_lt_zero _), fun _ _ q => q⟩ (fun j s s' hj hI => ?_) (fun s s' hI => ?_) (by omega)
    · obtain ⟨s1, ρ1⟩ := s
      obtain ⟨t1, υ1⟩ := s'
      obtain ⟨g1, g2, p1, g3, g4, g5⟩ := hI
      have g1 : s1 = nI j := g1
      have g2 : t1 = nI j := g2
      subst g1 g2
      have g3 : pRd σ τ k i E x y ρ1 υ1 p1 := g3
      rcases r_row g3 hk hE hcell hw hj hn with ⟨ρ', υ', p', m1, m2, m3, m4, m5⟩ | ⟨ρ', υ', p', m1, m2, m3⟩
      · refine Or.inl ⟨_, _, m1, m2, rfl, rfl, p', m3, fun a ha => ?_, fun r hr hd => (g5 r hr hd).keep m5 hn (by omega)⟩
        by_cases e : a = j
        · subst e; exact m4
        · exact (g4 a (by omega)).keep m5 hn (by omega)
      · exact Or.inr ⟨_, _, m1, m2, Or.inr ⟨ρ', υ', p', rfl, rfl, m3⟩⟩
    · obtain ⟨s1, ρ1⟩ := s
      obtain ⟨t1, υ1⟩ := s'
      obtain ⟨g1, g2, p1, g3, g4, g5⟩ := hI
      have g1 : s1 = nI n := g1
      have g2 : t1 = nI n := g2
      subst g1 g2
      refine ⟨.inl (nI n, ρ1), .inl (nI n, υ1), ?_, ?_, Or.inl ⟨_, ρ1, υ1, p1, rfl, rfl, g3, g4, g5⟩⟩
      · show bX5_takesTable_2 (nI (6 * w)) (nI n) (nI n) ρ1 = _
        unfold bX5_takesTable_2
        rw [i_le (Nat.le_refl _) (by omega)]
      · show bX11_readRows_3 (nI (36 * w)) (nI n) (nI (120 * k + E)) (nI n) υ1 = _
        unfold bX11_readRows_3
        rw [i_le (Nat.le_refl _) (by omega)]
  unfold fX5_takesTable fX11_readRows
  rw [l1, l2, Option.bind_some, Option.bind_some]
  rcases l3 with ⟨j, ρ', υ', p', rfl, rfl, q1, q2, q3⟩ | ⟨ρ', υ', p', rfl, rfl, q1⟩
  · exact Or.inl ⟨ρ', υ', p', rfl, rfl, q1, q2, q3⟩
  · exact Or.inr ⟨ρ', υ', p', rfl, rfl, q1⟩
end ROWS
