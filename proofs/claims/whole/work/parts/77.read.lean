/-! READING A TEXT: both readers, code by code -/
section READ
theorem zl_two0 {α β α' β' : Type} {B : α → Option (α ⊕ β)} {B' : α' → Option (α' ⊕ β')} (I : Nat → α → α' → Prop) (N : Nat) (E : β → β' → Prop) (hs : ∀ i a a', i < N → I i a a' → (∃ c c', B a = some (.inl c) ∧ B' a' = some (.inl c') ∧ I (i + 1) c c') ∨ (∃ b b', B a = some (.inr b) ∧ B' a' = some (.inr b') ∧ E b b')) (he : ∀ a a', I N a a' → ∃ b b', B a = some (.inr b) ∧ B' a' = some (.inr b') ∧ E b b') : ∀ (k i fuel : Nat) (a : α) (a' : α'), i + k = N → k < fuel → I i a a' → ∃ b b', zLp B fuel a = some b ∧ zLp B' fuel a' = some b' ∧ E b b' := by
  intro k
  induction k with
  | zero =>
    intro i fuel a a' h hf hI
    cases fuel with
    | zero => omega
    | succ f =>
      have hi : i = N := by omega
      subst hi
      obtain ⟨b, b', h1, h2, h3⟩ := he a a' hI
      exact ⟨b, b', by simp only [zLp, h1], by simp only [zLp, h2], h3⟩
  | succ k ih =>
    intro i fuel a a' h hf hI
    cases fuel with
    | zero => omega
    | succ f =>
      rcases hs i a a' (by omega) hI with ⟨c, c', h1, h2, h3⟩ | ⟨b, b', h1, h2, h3⟩
      · obtain ⟨b, b', h4, h5, h6⟩ := ih (i + 1) f c c' (by omega) (by omega) h3
        exact ⟨b, b', by simp only [zLp, h1]; exact h4, by simp only [zLp, h2]; exact h5, h6⟩
      · exact ⟨b, b', by simp only [zLp, h1], by simp only [zLp, h2], h3⟩
theorem zl_two {α β α' β' : Type} {B : α → Option (α ⊕ β)} {B' : α' → Option (α' ⊕ β')} (I : Nat → α → α' → Prop) (N : Nat) (E : β → β' → Prop) {a : α} {a' : α'} (h0 : I 0 a a') (hs : ∀ i a a', i < N → I i a a' → (∃ c c', B a = some (.inl c) ∧ B' a' = some (.inl c') ∧ I (i + 1) c c') ∨ (∃ b b', B a = some (.inr b) ∧ B' a' = some (.inr b') ∧ E b b')) (he : ∀ a a', I N a a' → ∃ b b', B a = some (.inr b) ∧ B' a' = some (.inr b') ∧ E b b') (hN : N < 1000) : ∃ b b', zLp B zFU a = some b ∧ zLp B' zFU a' = some b' ∧ E b b' :=
  zl_two0 I N E hs he N 0 zFU a a' (by omega) hN h0
/-- both readers stand at place p of the sheet k, in a text from i to E -/
def pRd (σ τ : zSt) (k i E : Nat) (x y : Int32) (ρ υ : zSt) (p : Nat) : Prop := p ≤ E ∧ zR ρ 2 3 = 12 + k ∧ zI ρ 2 4 = nI i ∧ zI ρ 2 5 = nI p ∧ zI ρ 2 6 = nI E ∧ zI ρ 2 1 = x ∧ zI υ 0 8 = y ∧ zI υ 0 7 = nI (120 * k + p) ∧ (∀ c q, ¬ c = 2 → ¬ (19 ≤ c ∧ c ≤ 30) → zI ρ c q = zI σ c q) ∧ (∀ c q, ¬ (c = 2 ∧ q = 3) → zR ρ c q = zR σ c q) ∧ (∀ c q, zJ ρ c q = zJ σ c q) ∧ (∀ c q, ¬ c = 5 → ¬ (c = 0 ∧ 7 ≤ q ∧ q ≤ 9) → zI υ c q = zI τ c q)
variable {σ τ : zSt} {k i E : Nat} {x y : Int32} {ρ υ : zSt} {p : Nat}
theorem pRd.adv (h : pRd σ τ k i E x y ρ υ p) (hp : p < E) : pRd σ τ k i E x y (zwI ρ 2 5 (nI (p + 1))) (zwI υ 0 7 (nI (120 * k + (p + 1)))) (p + 1) := by
  obtain ⟨h1, h2, h3, h4, h5, h6, h7, h8, h9, h10, h11, h12⟩ := h
  refine ⟨hp, h2, ?_, zI_self, ?_, ?_, ?_, zI_self, fun c q hc hd => ?_, h10, h11, fun c q hc hd => ?_⟩
  · rw [zI_ne (by omega)]; exact h3
  · rw [zI_ne (by omega)]; exact h5
  · rw [zI_ne (by omega)]; exact h6
  · rw [zI_ne (by omega)]; exact h7
  · rw [zI_ne (by omega)]; exact h9 c q hc hd
  · rw [zI_ne (by omega)]; exact h12 c q hc hd
theorem pRd.dig (h : pRd σ τ k i E x y ρ υ p) {r j : Nat} (hr : r < 12) (v : Int32) (m : Nat) : pRd σ τ k i E x y (zwI ρ (19 + r) j v) (zwI υ 5 m v) p := by
  obtain ⟨h1, h2, h3, h4, h5, h6, h7, h8, h9, h10, h11, h12⟩ := h
  refine ⟨h1, h2, ?_, ?_, ?_, ?_, ?_, ?_, fun c q hc hd => ?_, h10, h11, fun c q hc hd => ?_⟩
  · rw [zI_ne (by omega)]; exact h3
  · rw [zI_ne (by omega)]; exact h4
  · rw [zI_ne (by omega)]; exact h5
  · rw [zI_ne (by omega)]; exact h6
  · rw [zI_ne (by omega)]; exact h7
  · rw [zI_ne (by omega)]; exact h8
  · rw [zI_ne (by omega)]; exact h9 c q hc hd
  · rw [zI_ne (by omega)]; exact h12 c q hc hd
theorem pRd.cellC (h : pRd σ τ k i E x y ρ υ p) (hk : k < 4) (hE : E ≤ 120) (hp : p < E) : zrI 0 ρ (zR ρ 2 3) (zI ρ 2 5) = some (zI σ (12 + k) p) := by
  rw [h.2.1, h.2.2.2.1, zrI_n (zkRow k hk) (by omega), h.2.2.2.2.2.2.2.2.1 _ _ (by omega) (by omega)]
theorem pRd.cellM (h : pRd σ τ k i E x y ρ υ p) (hk : k < 4) (hE : E ≤ 120) (hcell : ∀ i, i < 120 → zI σ (12 + k) i = zI τ 3 (120 * k + i)) (hp : p < E) : zrI 1 υ 3 (nI (120 * k + p)) = some (zI σ (12 + k) p) := by
  rw [zrI_n (n := 480) (by decide) (by omega), h.2.2.2.2.2.2.2.2.2.2.2 _ _ (by decide) (by omega), hcell p (by omega)]
theorem r_sign (h : pRd σ τ k i E x y ρ υ p) (hk : k < 4) (hE : E ≤ 120) (hcell : ∀ i, i < 120 → zI σ (12 + k) i = zI τ 3 (120 * k + i)) (code : Int32) : (p < E ∧ fX5_takesSign ρ code = some (1, zwI ρ 2 5 (nI (p + 1))) ∧ fX11_isCode υ code (nI (120 * k + E)) = some 1) ∨ (fX5_takesSign ρ code = some (0, ρ) ∧ fX11_isCode υ code (nI (120 * k + E)) = some 0) := by
  have e5 := h.2.2.2.1
  have e6 := h.2.2.2.2.1
  have e7 := h.2.2.2.2.2.2.2.1
  unfold fX5_takesSign fX11_isCode
  rw [e6, e7]
  rcases Nat.lt_or_ge p E with hp | hp
  · have c1 := h.cellC hk hE hp
    rw [c1, h.cellM hk hE hcell hp, e5, i_nle hp (by omega), i_nle (by omega) (by omega), Option.bind_some, Option.bind_some, nI_1]
    by_cases e : zI σ (12 + k) p = code
    · rw [if_pos e, if_pos e]
      exact Or.inl ⟨hp, rfl, rfl⟩
    · rw [if_neg e, if_neg e]
      exact Or.inr ⟨rfl, rfl⟩
  · rw [e5, i_le hp (by have := h.1; omega), i_le (by omega) (by have := h.1; omega)]
    exact Or.inr ⟨rfl, rfl⟩
theorem r_48 {v : Int32} : (v < 48 ∨ 57 < v) ∨ ∃ j, j ≤ 9 ∧ v = nI (48 + j) := by
  by_cases h1 : v < 48
  · exact Or.inl (Or.inl h1)
  by_cases h2 : 57 < v
  · exact Or.inl (Or.inr h2)
  refine Or.inr ?_
  obtain ⟨q, hq, rfl⟩ := nI_of (x := v) (fun w => h1 (Int32.lt_trans w (by decide)))
  have a1 : 48 ≤ q := by
    rcases Nat.lt_or_ge q 48 with w | w
    · exact absurd (nI_lt (b := 48) w (by decide)) h1
    · exact w
  have a2 : q ≤ 57 := by
    rcases Nat.lt_or_ge 57 q with w | w
    · exact absurd (nI_lt (a := 57) w hq) h2
    · exact w
  exact ⟨q - 48, by omega, by rw [show 48 + (q - 48) = q by omega]⟩
theorem r_digit (h : pRd σ τ k i E x y ρ υ p) (hk : k < 4) (hE : E ≤ 120) (hcell : ∀ i, i < 120 → zI σ (12 + k) i = zI τ 3 (120 * k + i)) : (∃ v, v ≤ 9 ∧ p < E ∧ zI σ (12 + k) p = nI (48 + v) ∧ fX11_digitAt υ (nI (120 * k + p)) (nI (120 * k + E)) = some (nI v) ∧ ∀ lo hi, lo ≤ 9 → hi ≤ 9 → fX5_takeDigit ρ (nI lo) (nI hi) = if lo ≤ v ∧ v ≤ hi then some (nI v, zwI ρ 2 5 (nI (p + 1))) else some (-1, ρ)) ∨ (fX11_digitAt υ (nI (120 * k + p)) (nI (120 * k + E)) = some (-9) ∧ ∀ lo hi, lo ≤ 9 → hi ≤ 9 → fX5_takeDigit ρ (nI lo) (nI hi) = some (-1, ρ)) := by
  have e5 := h.2.2.2.1
  have e6 := h.2.2.2.2.1
  unfold fX5_takeDigit fX11_digitAt
  rcases Nat.lt_or_ge p E with hp | hp
  case inr =>
    refine Or.inr ⟨by rw [i_le (by omega) (by have := h.1; omega)], fun lo hi _ _ => by rw [e6, e5, i_le hp (by have := h.1; omega)]⟩
  have c1 := h.cellC hk hE hp
  have c2 : zrI 0 (zwI ρ 2 5 (nI (p + 1))) (zR (zwI ρ 2 5 (nI (p + 1))) 2 3) (nI p) = some (zI σ (12 + k) p) := by
    show zrI 0 (zwI ρ 2 5 (nI (p + 1))) (zR ρ 2 3) (nI p) = _
    rw [h.2.1, zrI_n (zkRow k hk) (by omega), zI_ne (by omega), h.2.2.2.2.2.2.2.2.1 _ _ (by omega) (by omega)]
  rw [h.cellM hk hE hcell hp, Option.bind_some, Option.bind_some, i_nle (show 120 * k + p < 120 * k + E by omega) (by omega)]
  rcases r_48 (v := zI σ (12 + k) p) with o | ⟨v, hv, ev⟩
  · refine Or.inr ⟨?_, fun lo hi hlo hhi => ?_⟩
    · unfold fX11_within
      rcases o with o | o
      · rw [if_pos o, i00]
      · by_cases o1 : zI σ (12 + k) p < 48
        · rw [if_pos o1, i00]
        · rw [if_neg o1, if_pos o, i00]
    · rw [c1, e6, e5, i_nle hp (by omega), Option.bind_some, Option.bind_some, show (48 : Int32) = nI 48 from rfl, nI_add, nI_add]
      have key : zI σ (12 + k) p < nI (48 + lo) ∨ ¬ zI σ (12 + k) p ≤ nI (48 + hi) := by
        rcases o with o | o
        · refine Or.inl ?_
          rw [Int32.lt_iff_toInt_lt] at o ⊢
          rw [nI_toInt (by omega)]
          have : (48 : Int32).toInt = 48 := by decide
          omega
        · refine Or.inr ?_
          rw [Int32.lt_iff_toInt_lt] at o
          rw [Int32.le_iff_toInt_le, nI_toInt (by omega)]
          have : (57 : Int32).toInt = 57 := by decide
          omega
      by_cases a : zI σ (12 + k) p < nI (48 + lo)
      · rw [if_pos a]
      · rw [if_neg a, if_neg (key.resolve_left a)]
  · refine Or.inl ⟨v, hv, hp, ev, ?_, fun lo hi hlo hhi => ?_⟩
    · unfold fX11_within
      rw [ev, show (48 : Int32) = nI 48 from rfl, show (57 : Int32) = nI 57 from rfl, i_nlt (by omega) (by omega), i_nlt (by omega) (by omega), i10, pk_sub (by omega), show 48 + v - 48 = v by omega]
    · rw [zI_self, c1, e6, e5, i_nle hp (by omega), Option.bind_some, Option.bind_some, nI_1, nI_pred, c2, Option.bind_some, ev, show (48 : Int32) = nI 48 from rfl, nI_add, nI_add, pk_sub (by omega), show 48 + v - 48 = v by omega]
      by_cases a : lo ≤ v
      · by_cases b : v ≤ hi
        · rw [i_nlt (by omega) (by omega), i_le (by omega) (by omega), if_pos ⟨a, b⟩]
        · rw [i_nlt (by omega) (by omega), i_nle (by omega) (by omega), if_neg (fun q => b q.2)]
      · rw [i_lt (by omega) (by omega), if_neg (fun q => a q.1)]
end READ
