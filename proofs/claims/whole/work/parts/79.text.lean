/-! READING A TEXT: of tongues, of a witness -/
section TEXT
theorem p10 {α : Sort _} {β : Type} {s : β} {x y : α} : (if ((1 : Int32), s).1 = 0 then x else y) = y := if_neg (show ¬ (1 : Int32) = 0 by decide)
theorem p00 {α : Sort _} {β : Type} {s : β} {x y : α} : (if ((0 : Int32), s).1 = 0 then x else y) = x := if_pos rfl
variable {σ τ : zSt} {k i E : Nat} {x y : Int32} {ρ υ : zSt} {p : Nat}
theorem pRd.at7 (h : pRd σ τ k i E x y ρ υ p) : zI υ 0 7 = nI (120 * k + p) := h.2.2.2.2.2.2.2.1
theorem pRd.advM (h : pRd σ τ k i E x y ρ υ p) (hp : p < E) : pRd σ τ k i E x y (zwI ρ 2 5 (nI (p + 1))) (zwI υ 0 7 (zI υ 0 7 + 1)) (p + 1) := by
  have := h.adv hp
  rw [h.at7, nI_1]
  exact this
theorem pRd.wrf (h : pRd σ τ k i E x y ρ υ p) (x' y' : Int32) : pRd σ τ k i E x' y' (zwI ρ 2 1 x') (zwI υ 0 8 y') p := by
  obtain ⟨h1, h2, h3, h4, h5, h6, h7, h8, h9, h10, h11, h12⟩ := h
  refine ⟨h1, h2, ?_, ?_, ?_, zI_self, zI_self, ?_, fun c q hc hd => ?_, h10, h11, fun c q hc hd => ?_⟩
  · rw [zI_ne (by omega)]; exact h3
  · rw [zI_ne (by omega)]; exact h4
  · rw [zI_ne (by omega)]; exact h5
  · rw [zI_ne (by omega)]; exact h8
  · rw [zI_ne (by omega)]; exact h9 c q hc hd
  · rw [zI_ne (by omega)]; exact h12 c q hc hd
theorem pRd.plf (h : pRd σ τ k i E x y ρ υ p) (x' y' : Int32) : pRd σ τ k i E x y (zwI ρ 2 2 x') (zwI υ 0 9 y') p := by
  obtain ⟨h1, h2, h3, h4, h5, h6, h7, h8, h9, h10, h11, h12⟩ := h
  refine ⟨h1, h2, ?_, ?_, ?_, ?_, ?_, ?_, fun c q hc hd => ?_, h10, h11, fun c q hc hd => ?_⟩
  · rw [zI_ne (by omega)]; exact h3
  · rw [zI_ne (by omega)]; exact h4
  · rw [zI_ne (by omega)]; exact h5
  · rw [zI_ne (by omega)]; exact h6
  · rw [zI_ne (by omega)]; exact h7
  · rw [zI_ne (by omega)]; exact h8
  · rw [zI_ne (by omega)]; exact h9 c q hc hd
  · rw [zI_ne (by omega)]; exact h12 c q hc hd
theorem pRd.wrd (h : pRd σ τ k i E x y ρ υ p) (hp : p < E) (v : Int32) : pRd σ τ k i E v v (zwI (zwI ρ 2 5 (nI (p + 1))) 2 1 v) (zwI (zwI υ 0 8 v) 0 7 (zI (zwI υ 0 8 v) 0 7 + 1)) (p + 1) := by
  obtain ⟨h1, h2, h3, h4, h5, h6, h7, h8, h9, h10, h11, h12⟩ := h
  refine ⟨hp, h2, ?_, ?_, ?_, zI_self, ?_, ?_, fun c q hc hd => ?_, h10, h11, fun c q hc hd => ?_⟩
  · rw [zI_ne (by omega), zI_ne (by omega)]; exact h3
  · rw [zI_ne (by omega), zI_self]
  · rw [zI_ne (by omega), zI_ne (by omega)]; exact h5
  · rw [zI_ne (by omega), zI_self]
  · rw [zI_self, zI_ne (by omega), h8, nI_1]; rfl
  · rw [zI_ne (by omega), zI_ne (by omega)]; exact h9 c q hc hd
  · rw [zI_ne (by omega), zI_ne (by omega)]; exact h12 c q hc hd
theorem pRd.pld (h : pRd σ τ k i E x y ρ υ p) (hp : p < E) (v : Int32) : pRd σ τ k i E x y (zwI (zwI ρ 2 5 (nI (p + 1))) 2 2 v) (zwI (zwI υ 0 9 v) 0 7 (zI (zwI υ 0 9 v) 0 7 + 1)) (p + 1) := by
  obtain ⟨h1, h2, h3, h4, h5, h6, h7, h8, h9, h10, h11, h12⟩ := h
  refine ⟨hp, h2, ?_, ?_, ?_, ?_, ?_, ?_, fun c q hc hd => ?_, h10, h11, fun c q hc hd => ?_⟩
  · rw [zI_ne (by omega), zI_ne (by omega)]; exact h3
  · rw [zI_ne (by omega), zI_self]
  · rw [zI_ne (by omega), zI_ne (by omega)]; exact h5
  · rw [zI_ne (by omega), zI_ne (by omega)]; exact h6
  · rw [zI_ne (by omega), zI_ne (by omega)]; exact h7
  · rw [zI_self, zI_ne (by omega), h8, nI_1]; rfl
  · rw [zI_ne (by omega), zI_ne (by omega)]; exact h9 c q hc hd
  · rw [zI_ne (by omega), zI_ne (by omega)]; exact h12 c q hc hd
theorem pDg.mv {n r : Nat} {ρ υ ρ' υ' : zSt} (h : pDg n ρ υ r) (hC : ∀ b, zI ρ' (19 + r) b = zI ρ (19 + r) b) (hM : ∀ q, zI υ' 5 q = zI υ 5 q) : pDg n ρ' υ' r := by
  obtain ⟨d, h1, h2⟩ := h
  exact ⟨d, h1, fun b hb => by rw [hC, hM]; exact h2 b hb⟩
theorem r_end (h : pRd σ τ k i E x y ρ υ p) (hk : k < 4) (hE : E ≤ 120) : (zI ρ 2 5 = zI ρ 2 6 ↔ p = E) ∧ (zI υ 0 7 = nI (120 * k + E) ↔ p = E) := by
  have := h.1
  rw [h.2.2.2.1, h.2.2.2.2.1, h.at7, nI_eq (by omega) (by omega), nI_eq (by omega) (by omega)]
  exact ⟨Iff.rfl, by omega⟩
theorem r_tongues (h : pRd σ τ k i E x y ρ υ p) (hk : k < 4) (hE : E ≤ 120) (hcell : ∀ i, i < 120 → zI σ (12 + k) i = zI τ 3 (120 * k + i)) : (∃ n ρ' υ' p', 2 ≤ n ∧ n ≤ 6 ∧ fX5_readsTongues ρ = some (1, ρ') ∧ fX11_readTongues υ (nI (120 * k + E)) = some (1, υ') ∧ pRd σ τ k i E (nI n) (nI n) ρ' υ' p' ∧ ∀ w a, w < 2 → a < n → pDg n ρ' υ' (6 * w + a)) ∨ (∃ ρ' υ' p' x' y', fX5_readsTongues ρ = some (0, ρ') ∧ fX11_readTongues υ (nI (120 * k + E)) = some (0, υ') ∧ pRd σ τ k i E x' y' ρ' υ' p') := by
  unfold fX5_readsTongues fX11_readTongues
  rcases r_sign h hk hE hcell 119 with ⟨hp, s1, s2⟩ | ⟨s1, s2⟩
  case inr =>
    rw [s1, s2, Option.bind_some, Option.bind_some]
    exact Or.inr ⟨ρ, υ, p, x, y, rfl, rfl, h⟩
  rw [s1, s2, Option.bind_some, Option.bind_some, p10, i10]
  have h1 := h.advM hp
  generalize zwI ρ 2 5 (nI (p + 1)) = ρ1 at h1 ⊢
  generalize zwI υ 0 7 (zI υ 0 7 + 1) = υ1 at h1 ⊢
  generalize p + 1 = p1 at h1
  clear s1 s2 hp
  rcases r_digit h1 hk hE hcell with ⟨v, hv, hp, ev, m1, c1⟩ | ⟨m1, c1⟩
  case inr =>
    rw [← h1.at7] at m1
    have c1 : fX5_takeDigit ρ1 (2 : Int32) (6 : Int32) = some (-1, ρ1) := c1 2 6 (by decide) (by decide)
    have e1 : fX11_within (zI (zwI υ1 0 8 (-9)) 0 8) (2 : Int32) (6 : Int32) = 0 := by rw [zI_self]; decide
    rw [m1, Option.bind_some, e1, i00]
    dsimp only
    rw [c1, Option.bind_some]
    dsimp only
    rw [zI_self, if_pos (show (-1 : Int32) < 0 by decide)]
    exact Or.inr ⟨_, _, _, _, _, rfl, rfl, h1.wrf (-1) (-9)⟩
  rw [← h1.at7] at m1
  have c1 : fX5_takeDigit ρ1 (2 : Int32) (6 : Int32) = if 2 ≤ v ∧ v ≤ 6 then some (nI v, zwI ρ1 2 5 (nI (p1 + 1))) else some (-1, ρ1) := c1 2 6 (by decide) (by decide)
  rw [m1, Option.bind_some]
  dsimp only
  rw [c1]
  by_cases q : 2 ≤ v ∧ v ≤ 6
  case neg =>
    have e1 : fX11_within (zI (zwI υ1 0 8 (nI v)) 0 8) (2 : Int32) (6 : Int32) = 0 := by
      rw [zI_self]
      unfold fX11_within
      rw [show (2 : Int32) = nI 2 from rfl, show (6 : Int32) = nI 6 from rfl]
      by_cases q1 : v < 2
      · rw [i_lt q1 (by decide)]
      · rw [i_nlt (by omega) (by omega), i_lt (by omega) (by omega)]
    rw [if_neg q, Option.bind_some, e1, i00]
    dsimp only
    rw [zI_self, if_pos (show (-1 : Int32) < 0 by decide)]
    exact Or.inr ⟨_, _, _, _, _, rfl, rfl, h1.wrf (-1) (nI v)⟩
  have e1 : fX11_within (zI (zwI υ1 0 8 (nI v)) 0 8) (2 : Int32) (6 : Int32) = 1 := by
    rw [zI_self]
    unfold fX11_within
    rw [show (2 : Int32) = nI 2 from rfl, show (6 : Int32) = nI 6 from rfl, i_nlt (by omega) (by omega), i_nlt (by omega) (by omega)]
  rw [if_pos q, Option.bind_some, e1, i10]
  dsimp only
  have h2 := h1.wrd hp (nI v)
  generalize zwI (zwI ρ1 2 5 (nI (p1 + 1))) 2 1 (nI v) = ρ2 at h2 ⊢
  generalize zwI (zwI υ1 0 8 (nI v)) 0 7 (zI (zwI υ1 0 8 (nI v)) 0 7 + 1) = υ2 at h2 ⊢
  generalize p1 + 1 = p2 at h2
  clear m1 c1 e1 ev hp
  rw [h2.2.2.2.2.2.1, h2.2.2.2.2.2.2.1, if_neg (nI_pos (by omega))]
  rcases r_table h2 hk hE hcell (w := 0) (n := v) (by decide) q.2 with ⟨ρ3, υ3, p3, t1, t2, h3, t3, -⟩ | ⟨ρ3, υ3, p3, t1, t2, h3⟩
  case inr =>
    have t1 : fX5_takesTable ρ2 (0 : Int32) (nI v) = some (0, ρ3) := t1
    have t2 : fX11_readRows υ2 (0 : Int32) (nI v) (nI (120 * k + E)) = some (0, υ3) := t2
    rw [t1, t2, Option.bind_some, Option.bind_some]
    exact Or.inr ⟨ρ3, υ3, p3, _, _, rfl, rfl, h3⟩
  have t1 : fX5_takesTable ρ2 (0 : Int32) (nI v) = some (1, ρ3) := t1
  have t2 : fX11_readRows υ2 (0 : Int32) (nI v) (nI (120 * k + E)) = some (1, υ3) := t2
  rw [t1, t2, Option.bind_some, Option.bind_some, p10, p10]
  dsimp only
  clear t1 t2
  rcases r_sign h3 hk hE hcell 59 with ⟨hp, s1, s2⟩ | ⟨s1, s2⟩
  case inr =>
    rw [s1, s2, Option.bind_some, Option.bind_some]
    exact Or.inr ⟨ρ3, υ3, p3, _, _, rfl, rfl, h3⟩
  rw [s1, s2, Option.bind_some, Option.bind_some, p10, i10]
  dsimp only
  have h4 := h3.advM hp
  have t4 : ∀ a, a < v → pDg v (zwI ρ3 2 5 (nI (p3 + 1))) (zwI υ3 0 7 (zI υ3 0 7 + 1)) (6 * 0 + a) := fun a ha => (t3 a ha).mv (fun b => zI_ne (by omega)) (fun q => zI_ne (by omega))
  generalize zwI ρ3 2 5 (nI (p3 + 1)) = ρ4 at h4 t4 ⊢
  generalize zwI υ3 0 7 (zI υ3 0 7 + 1) = υ4 at h4 t4 ⊢
  generalize p3 + 1 = p4 at h4
  clear s1 s2 hp t3
  rcases r_sign h4 hk hE hcell 98 with ⟨hp, s1, s2⟩ | ⟨s1, s2⟩
  case inr =>
    rw [s1, s2, Option.bind_some, Option.bind_some]
    exact Or.inr ⟨ρ4, υ4, p4, _, _, rfl, rfl, h4⟩
  rw [s1, s2, Option.bind_some, Option.bind_some, p10, i10]
  dsimp only
  have h5 := h4.advM hp
  have t5 : ∀ a, a < v → pDg v (zwI ρ4 2 5 (nI (p4 + 1))) (zwI υ4 0 7 (zI υ4 0 7 + 1)) (6 * 0 + a) := fun a ha => (t4 a ha).mv (fun b => zI_ne (by omega)) (fun q => zI_ne (by omega))
  generalize zwI ρ4 2 5 (nI (p4 + 1)) = ρ5 at h5 t5 ⊢
  generalize zwI υ4 0 7 (zI υ4 0 7 + 1) = υ5 at h5 t5 ⊢
  generalize p4 + 1 = p5 at h5
  clear s1 s2 hp t4
  rw [h5.2.2.2.2.2.1, h5.2.2.2.2.2.2.1]
  rcases r_table h5 hk hE hcell (w := 1) (n := v) (by decide) q.2 with ⟨ρ6, υ6, p6, t1, t2, h6, t3, t6⟩ | ⟨ρ6, υ6, p6, t1, t2, h6⟩
  case inr =>
    have t1 : fX5_takesTable ρ5 (6 : Int32) (nI v) = some (0, ρ6) := t1
    have t2 : fX11_readRows υ5 (36 : Int32) (nI v) (nI (120 * k + E)) = some (0, υ6) := t2
    rw [t1, t2, Option.bind_some, Option.bind_some]
    exact Or.inr ⟨ρ6, υ6, p6, _, _, rfl, rfl, h6⟩
  have t1 : fX5_takesTable ρ5 (6 : Int32) (nI v) = some (1, ρ6) := t1
  have t2 : fX11_readRows υ5 (36 : Int32) (nI v) (nI (120 * k + E)) = some (1, υ6) := t2
  rw [t1, t2, Option.bind_some, Option.bind_some, p10, p10]
  dsimp only
  obtain ⟨e1, e2⟩ := r_end h6 hk hE
  by_cases e : p6 = E
  · rw [if_pos (e1.mpr e), if_pos (e2.mpr e)]
    refine Or.inl ⟨v, ρ6, υ6, p6, q.1, q.2, rfl, rfl, h6, fun w a hw ha => ?_⟩
    rcases (show w = 0 ∨ w = 1 by omega) with rfl | rfl
    · exact t6 (6 * 0 + a) (by omega) (t5 a ha)
    · exact t3 a ha
  · rw [if_neg (fun z => e (e1.mp z)), if_neg (fun z => e (e2.mp z))]
    exact Or.inr ⟨ρ6, υ6, p6, _, _, rfl, rfl, h6⟩
theorem r_witness (h : pRd σ τ k i E x y ρ υ p) (hk : k < 4) (hE : E ≤ 120) (hcell : ∀ i, i < 120 → zI σ (12 + k) i = zI τ 3 (120 * k + i)) {n : Nat} (hn : n ≤ 6) (h50 : zI τ 0 5 = nI n) : (∃ pl ρ' υ' p', pl ≤ 9 ∧ fX5_readsWitness ρ (nI n) = some (1, ρ') ∧ fX11_readWitness υ (nI (120 * k + E)) = some (1, υ') ∧ zI ρ' 2 2 = nI pl ∧ zI υ' 0 9 = nI pl ∧ pRd σ τ k i E x y ρ' υ' p' ∧ ∀ a, a < n → pDg n ρ' υ' a) ∨ (∃ ρ' υ' p' x' y', fX5_readsWitness ρ (nI n) = some (0, ρ') ∧ fX11_readWitness υ (nI (120 * k + E)) = some (0, υ') ∧ pRd σ τ k i E x' y' ρ' υ' p') := by
  unfold fX5_readsWitness fX11_readWitness
  rcases r_sign h hk hE hcell 118 with ⟨hp, s1, s2⟩ | ⟨s1, s2⟩
  case inr =>
    rw [s1, s2, Option.bind_some, Option.bind_some]
    exact Or.inr ⟨ρ, υ, p, x, y, rfl, rfl, h⟩
  rw [s1, s2, Option.bind_some, Option.bind_some, p10, i10]
  dsimp only
  have h2 := h.advM hp
  generalize zwI ρ 2 5 (nI (p + 1)) = ρ2 at h2 ⊢
  generalize zwI υ 0 7 (zI υ 0 7 + 1) = υ2 at h2 ⊢
  generalize p + 1 = p2 at h2
  clear s1 s2 hp
  rw [show zI υ2 0 5 = nI n from (h2.2.2.2.2.2.2.2.2.2.2.2 0 5 (by decide) (by omega)).trans h50]
  rcases r_table h2 hk hE hcell (w := 0) (n := n) (by decide) hn with ⟨ρ3, υ3, p3, t1, t2, h3, t3, -⟩ | ⟨ρ3, υ3, p3, t1, t2, h3⟩
  case inr =>
    have t1 : fX5_takesTable ρ2 (0 : Int32) (nI n) = some (0, ρ3) := t1
    have t2 : fX11_readRows υ2 (0 : Int32) (nI n) (nI (120 * k + E)) = some (0, υ3) := t2
    rw [t1, t2, Option.bind_some, Option.bind_some]
    exact Or.inr ⟨ρ3, υ3, p3, _, _, rfl, rfl, h3⟩
  have t1 : fX5_takesTable ρ2 (0 : Int32) (nI n) = some (1, ρ3) := t1
  have t2 : fX11_readRows υ2 (0 : Int32) (nI n) (nI (120 * k + E)) = some (1, υ3) := t2
  rw [t1, t2, Option.bind_some, Option.bind_some, p10, p10]
  dsimp only
  clear t1 t2
  rcases r_sign h3 hk hE hcell 59 with ⟨hp, s1, s2⟩ | ⟨s1, s2⟩
  case inr =>
    rw [s1, s2, Option.bind_some, Option.bind_some]
    exact Or.inr ⟨ρ3, υ3, p3, _, _, rfl, rfl, h3⟩
  rw [s1, s2, Option.bind_some, Option.bind_some, p10, i10]
  dsimp only
  have h4 := h3.advM hp
  have t4 : ∀ a, a < n → pDg n (zwI ρ3 2 5 (nI (p3 + 1))) (zwI υ3 0 7 (zI υ3 0 7 + 1)) (6 * 0 + a) := fun a ha => (t3 a ha).mv (fun b => zI_ne (by omega)) (fun q => zI_ne (by omega))
  generalize zwI ρ3 2 5 (nI (p3 + 1)) = ρ4 at h4 t4 ⊢
  generalize zwI υ3 0 7 (zI υ3 0 7 + 1) = υ4 at h4 t4 ⊢
  generalize p3 + 1 = p4 at h4
  clear s1 s2 hp t3
  rcases r_sign h4 hk hE hcell 112 with ⟨hp, s1, s2⟩ | ⟨s1, s2⟩
  case inr =>
    rw [s1, s2, Option.bind_some, Option.bind_some]
    exact Or.inr ⟨ρ4, υ4, p4, _, _, rfl, rfl, h4⟩
  rw [s1, s2, Option.bind_some, Option.bind_some, p10, i10]
  dsimp only
  have h5 := h4.advM hp
  have t5 : ∀ a, a < n → pDg n (zwI ρ4 2 5 (nI (p4 + 1))) (zwI υ4 0 7 (zI υ4 0 7 + 1)) (6 * 0 + a) := fun a ha => (t4 a ha).mv (fun b => zI_ne (by omega)) (fun q => zI_ne (by omega))
  generalize zwI ρ4 2 5 (nI (p4 + 1)) = ρ5 at h5 t5 ⊢
  generalize zwI υ4 0 7 (zI υ4 0 7 + 1) = υ5 at h5 t5 ⊢
  generalize p4 + 1 = p5 at h5
  clear s1 s2 hp t4
  rcases r_digit h5 hk hE hcell with ⟨v, hv, hp, ev, m1, c1⟩ | ⟨m1, c1⟩
  case inr =>
    rw [← h5.at7] at m1
    have c1 : fX5_takeDigit ρ5 (0 : Int32) (9 : Int32) = some (-1, ρ5) := c1 0 9 (by decide) (by decide)
    rw [m1, c1, Option.bind_some, Option.bind_some, if_pos (show zI (zwI υ5 0 9 (-9)) 0 9 = -9 from zI_self)]
    dsimp only
    rw [zI_self, if_pos (show (-1 : Int32) < 0 by decide)]
    exact Or.inr ⟨_, _, _, _, _, rfl, rfl, h5.plf (-1) (-9)⟩
  rw [← h5.at7] at m1
  have c1 : fX5_takeDigit ρ5 (0 : Int32) (9 : Int32) = if 0 ≤ v ∧ v ≤ 9 then some (nI v, zwI ρ5 2 5 (nI (p5 + 1))) else some (-1, ρ5) := c1 0 9 (by decide) (by decide)
  rw [m1, c1, if_pos ⟨Nat.zero_le _, hv⟩, Option.bind_some, Option.bind_some, if_neg (show ¬ zI (zwI υ5 0 9 (nI v)) 0 9 = -9 from fun z => nI_m9 (a := v) (by omega) (zI_self.symm.trans z))]
  dsimp only
  rw [zI_self, if_neg (nI_pos (by omega))]
  have h6 := h5.pld hp (nI v)
  have u1 : zI (zwI (zwI ρ5 2 5 (nI (p5 + 1))) 2 2 (nI v)) 2 2 = nI v := zI_self
  have u2 : zI (zwI (zwI υ5 0 9 (nI v)) 0 7 (zI (zwI υ5 0 9 (nI v)) 0 7 + 1)) 0 9 = nI v := by rw [zI_ne (by omega), zI_self]
  have t6 : ∀ a, a < n → pDg n (zwI (zwI ρ5 2 5 (nI (p5 + 1))) 2 2 (nI v)) (zwI (zwI υ5 0 9 (nI v)) 0 7 (zI (zwI υ5 0 9 (nI v)) 0 7 + 1)) a := fun a ha => by
    have := t5 a ha
    rw [show 6 * 0 + a = a by omega] at this
    exact this.mv (fun b => by rw [zI_ne (by omega), zI_ne (by omega)]) (fun q => by rw [zI_ne (by omega), zI_ne (by omega)])
  generalize zwI (zwI ρ5 2 5 (nI (p5 + 1))) 2 2 (nI v) = ρ6 at h6 u1 t6 ⊢
  generalize zwI (zwI υ5 0 9 (nI v)) 0 7 (zI (zwI υ5 0 9 (nI v)) 0 7 + 1) = υ6 at h6 u2 t6 ⊢
  generalize p5 + 1 = p6 at h6
  obtain ⟨e1, e2⟩ := r_end h6 hk hE
  by_cases e : p6 = E
  · rw [if_pos (e1.mpr e), if_pos (e2.mpr e)]
    exact Or.inl ⟨v, ρ6, υ6, p6, hv, rfl, rfl, u1, u2, h6, t6⟩
  · rw [if_neg (fun z => e (e1.mp z)), if_neg (fun z => e (e2.mp z))]
    exact Or.inr ⟨ρ6, υ6, p6, _, _, rfl, rfl, h6⟩
end TEXT
