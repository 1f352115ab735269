/-! WRONG: how many of the yes turns are true -/
section WRONG
/-- the weights after u turns, and the whole -/
def wgt (th tr : Nat → Nat) : Nat → Nat → Int64
  | 0, k => if k = 0 then 1 else 0
  | u + 1, k => if th u = 0 then wgt th tr u k * (1000 - lN (tr u)) + (if k = 0 then 0 else wgt th tr u (k - 1) * lN (tr u)) else wgt th tr u k
def wgd (th : Nat → Nat) : Nat → Int64
  | 0 => 1
  | u + 1 => if th u = 0 then wgd th u * 1000 else wgd th u
theorem wgd_n (th : Nat → Nat) (u : Nat) : ∃ e, e ≤ u ∧ wgd th u = lN (1000 ^ e) := by
  induction u with
  | zero => exact ⟨0, Nat.le_refl _, rfl⟩
  | succ u ih =>
    obtain ⟨e, h1, h2⟩ := ih
    rw [wgd]
    split
    · exact ⟨e + 1, by omega, by rw [h2, show (1000 : Int64) = lN 1000 from rfl, lN_mul, Nat.pow_succ]⟩
    · exact ⟨e, by omega, h2⟩
theorem wgd_0 : ∀ e, e < 7 → ¬ lN (1000 ^ e) = 0 := by decide +kernel
theorem th_sub {r : Nat} (h : r ≤ 1000) : ((1000 : Int32) - nI r).toInt64 = 1000 - lN r := by
  have : (1000 : Int32) - nI r = nI (1000 - r) := by
    rw [show (1000 : Int32) = nI 1000 from rfl, pk_sub h]
  rw [this, nI_l (by omega), show (1000 : Int64) = lN 1000 from rfl]
  have e : lN 1000 = lN (1000 - r) + lN r := by rw [lN_add]; congr 1; omega
  rw [e]
  simp
/-- one yes turn more -/
def wgn (A : Nat → Int64) (r k : Nat) : Int64 := A k * (1000 - lN r) + (if k = 0 then 0 else A (k - 1) * lN r)
theorem c_weighOne {σ : zSt} {A : Nat → Int64} {r : Nat} (hr : r ≤ 1000) (hA : ∀ k, k < 7 → zJ σ 79 k = A k) : ∃ σ', fX4_weighOne σ (nI r) = some σ' ∧ (∀ k, k < 7 → zJ σ' 79 k = wgn A r k) ∧ zJ σ' 8 2 = zJ σ 8 2 * 1000 ∧ (∀ c p, ¬ c = 79 → ¬ (c = 8 ∧ p = 2) → zJ σ' c p = zJ σ c p) ∧ σ'.1 = σ.1 ∧ σ'.2.2 = σ.2.2 := by
  unfold fX4_weighOne
  obtain ⟨b, h1, h2, h3, h4, h5⟩ := zl_inv (body := fun a : Int32 × zSt => bX4_weighOne_3 (nI r) a.1 a.2) (fun i a => a.1 = nI (6 - i) ∧ (∀ k, k < 7 → zJ a.2 79 k = if 6 - i < k then wgn A r k else A k) ∧ (∀ c p, ¬ c = 79 → zJ a.2 c p = zJ σ c p) ∧ a.2.1 = σ.1 ∧ a.2.2.2 = σ.2.2) 6 (fun b => (∀ k, k < 7 → zJ b.2 79 k = if 0 < k then wgn A r k else A k) ∧ (∀ c p, ¬ c = 79 → zJ b.2 c p = zJ σ c p) ∧ b.2.1 = σ.1 ∧ b.2.2.2 = σ.2.2) (a := ((6 : Int32), σ)) ⟨rfl, fun k hk => by rw [if_neg (by omega)]; exact hA k hk, fun _ _ _ => rfl, rfl, rfl⟩ (fun i a hi hI => by
      obtain ⟨x, s⟩ := a
      obtain ⟨g1, g2, g3, g4⟩ := hI
      obtain ⟨m, hm⟩ : ∃ m, 6 - i = m + 1 := ⟨6 - i - 1, by omega⟩
      rw [hm] at g1 g2
      have g1 : x = nI (m + 1) := g1
      subst g1
      have g2 : ∀ k, k < 7 → zJ s 79 k = if m + 1 < k then wgn A r k else A k := g2
      have u1 := g2 (m + 1) (by omega)
      have u2 := g2 m (by omega)
      rw [if_neg (by omega)] at u1 u2
      refine ⟨(nI (m + 1) + (-1), zwJ s 79 (m + 1) (wgn A r (m + 1))), ?_, ?_, fun k hk => ?_, fun c p hc => ?_, ?_⟩
      rotate_left 4
      · show s.1 = σ.1 ∧ s.2.2 = σ.2.2
        exact g4
      · show bX4_weighOne_3 (nI r) (nI (m + 1)) s = _
        unfold bX4_weighOne_3
        rw [if_neg (show ¬ nI (m + 1) ≤ (0 : Int32) from nI_ge (a := 0) (by omega) (by omega)), zrJ_n (n := 7) (by decide) (by omega), Option.bind_some, nI_pred, zrJ_n (n := 7) (by decide) (by omega), Option.bind_some, zsJ_n (n := 7) (by decide) (by omega), Option.bind_some, u1, u2, th_sub hr, nI_l (by omega)]
        rfl
      · show nI (m + 1) + (-1) = nI (6 - (i + 1))
        rw [pk_m1, show 6 - (i + 1) = m by omega]
      · show zJ (zwJ s 79 (m + 1) _) 79 k = _
        rw [zJ_wJ, show 6 - (i + 1) = m by omega]
        by_cases e : k = m + 1
        · rw [if_pos ⟨rfl, e⟩, if_pos (by omega), e]
        · rw [if_neg (fun q => e q.2), g2 k hk]
          by_cases e2 : m + 1 < k
          · rw [if_pos e2, if_pos (by omega)]
          · rw [if_neg e2, if_neg (by omega)]
      · show zJ (zwJ s 79 (m + 1) _) c p = _
        rw [zJ_wJ, if_neg (fun q => hc q.1)]
        exact g3 c p hc) (fun a hI => by
      obtain ⟨x, s⟩ := a
      obtain ⟨g1, g2, g3, g4⟩ := hI
      have g1 : x = nI 0 := g1
      subst g1
      refine ⟨(nI 0, s), ?_, g2, g3, g4⟩
      show bX4_weighOne_3 (nI r) (nI 0) s = _
      unfold bX4_weighOne_3
      rw [if_pos (by decide)]) (by decide)
  obtain ⟨x, s⟩ := b
  have h2 : ∀ k, k < 7 → zJ s 79 k = if 0 < k then wgn A r k else A k := h2
  have h3 : ∀ c p, ¬ c = 79 → zJ s c p = zJ σ c p := h3
  have r0 : zrJ 0 s 79 (0 : Int32) = some (zJ s 79 0) := zrJ_n (n := 7) (k := 0) (by decide) (by decide)
  have w0 : ∀ v, zsJ 0 s 79 (0 : Int32) v = some (zwJ s 79 0 v) := fun v => zsJ_n (n := 7) (k := 0) (by decide) (by decide)
  rw [h1, Option.bind_some, r0, Option.bind_some, w0, Option.bind_some]
  refine ⟨_, rfl, fun k hk => ?_, ?_, fun c p hc hd => ?_, h4, h5⟩
  · rw [zJ_wJ, if_neg (fun q => absurd q.1 (by decide)), zJ_wJ]
    by_cases e : k = 0
    · subst e
      rw [if_pos ⟨rfl, rfl⟩, h2 0 (by decide), if_neg (by decide), th_sub hr]
      unfold wgn
      rw [if_pos rfl, Int64.add_zero]
    · rw [if_neg (fun q => e q.2), h2 k hk, if_pos (by omega)]
  · rw [zJ_self, zJ_ne (by decide), h3 8 2 (by decide)]
  · rw [zJ_ne hd, zJ_ne (fun q => hc q.1), h3 c p hc]
theorem m_weighOne {τ : zSt} {A : Nat → Int64} {r : Nat} (x y z : Int32) (w : Int64) (hA : ∀ k, k < 8 → zJ τ 16 k = A k) : ∃ b, zLp (fun a : Int32 × zSt => bX11_wrong_86 x y w z (lN r) a.1 a.2) zFU ((7 : Int32), τ) = some b ∧ (∀ k, k < 8 → zJ b.2 16 k = wgn A r k) ∧ b.2.1 = τ.1 := by
  refine zl_inv (body := fun a : Int32 × zSt => bX11_wrong_86 x y w z (lN r) a.1 a.2) (fun i a => a.1 = nI (8 - i) + (-1) ∧ (∀ k, k < 8 → zJ a.2 16 k = if 8 - i ≤ k then wgn A r k else A k) ∧ a.2.1 = τ.1) 8 (fun b => (∀ k, k < 8 → zJ b.2 16 k = wgn A r k) ∧ b.2.1 = τ.1) (a := ((7 : Int32), τ)) ⟨rfl, fun k hk => by rw [if_neg (by omega)]; exact hA k hk, rfl⟩ (fun i a hi hI => ?_) (fun a hI => ?_) (by decide)
  · obtain ⟨x8, s⟩ := a
    obtain ⟨g1, g2, g3⟩ := hI
    obtain ⟨m, hm⟩ : ∃ m, 8 - i = m + 1 := ⟨8 - i - 1, by omega⟩
    rw [hm] at g1 g2
    have g1 : x8 = nI (m + 1) + (-1) := g1
    rw [pk_m1] at g1
    subst g1
    have g2 : ∀ k, k < 8 → zJ s 16 k = if m + 1 ≤ k then wgn A r k else A k := g2
    have u1 := g2 m (by omega)
    rw [if_neg (by omega)] at u1
    refine ⟨(nI m + (-1), zwJ s 16 m (wgn A r m)), ?_, ?_, fun k hk => ?_, ?_⟩
    rotate_left 3
    · show s.1 = τ.1
      exact g3
    · show bX11_wrong_86 x y w z (lN r) (nI m) s = _
      unfold bX11_wrong_86
      rw [if_neg (nI_pos (by omega)), zrJ_n (n := 8) (by decide) (by omega), Option.bind_some, u1]
      cases m with
      | zero =>
        rw [if_pos (show nI 0 ≤ (0 : Int32) by decide), zsJ_n (n := 8) (by decide) (by omega), Option.bind_some]
        rfl
      | succ m =>
        have u2 := g2 m (by omega)
        rw [if_neg (by omega)] at u2
        rw [if_neg (show ¬ nI (m + 1) ≤ (0 : Int32) from nI_ge (a := 0) (by omega) (by omega)), nI_pred, zrJ_n (n := 8) (by decide) (by omega), Option.bind_some, zsJ_n (n := 8) (by decide) (by omega), Option.bind_some, u2]
        rfl
    · show nI m + (-1) = nI (8 - (i + 1)) + (-1)
      rw [show 8 - (i + 1) = m by omega]
    · show zJ (zwJ s 16 m _) 16 k = _
      rw [zJ_wJ, show 8 - (i + 1) = m by omega]
      by_cases e : k = m
      · rw [if_pos ⟨rfl, e⟩, if_pos (by omega), e]
      · rw [if_neg (fun q => e q.2), g2 k hk]
        by_cases e2 : m + 1 ≤ k
        · rw [if_pos e2, if_pos (by omega)]
        · rw [if_neg e2, if_neg (by omega)]
  · obtain ⟨x8, s⟩ := a
    obtain ⟨g1, g2, g3⟩ := hI
    have g1 : x8 = nI 0 + (-1) := g1
    subst g1
    refine ⟨(nI 0 + (-1), s), ?_, fun k hk => ?_, g3⟩
    · show bX11_wrong_86 x y w z (lN r) (nI 0 + (-1)) s = _
      unfold bX11_wrong_86
      rw [if_pos (show nI 0 + (-1) < (0 : Int32) by decide)]
    · have := g2 k hk
      rw [if_pos (by omega)] at this
      exact this
theorem wgt_yes {th tr : Nat → Nat} {u : Nat} (h : th u = 0) (k : Nat) : wgt th tr (u + 1) k = wgn (wgt th tr u) (tr u) k := by
  rw [wgt, if_pos h]
  rfl
theorem wgt_no {th tr : Nat → Nat} {u : Nat} (h : ¬ th u = 0) (k : Nat) : wgt th tr (u + 1) k = wgt th tr u k := by
  rw [wgt, if_neg h]
def wgs (A : Nat → Int64) : Nat → Int64
  | 0 => 0
  | j + 1 => wgs A j + A j
variable {σ τ : zSt} {n : Nat} {T : Nat → Nat → Nat → Nat} {c : Nat} {kd td : Nat → Nat} {v pl : Nat} {sp : Nat → Nat → Nat} {t : Nat} {tb tw th ts tm : Nat → Nat}
theorem c_weighYes (h6 : n ≤ 6) (hU : pU σ τ n T c kd v pl sp t tb tw th ts tm) : ∃ σ', fX4_weighYes σ = some σ' ∧ (∀ k, k < 7 → zJ σ' 79 k = wgt th (fun u => tru n T pl sp (kd (tb u)) (tw u) (th u)) t k) ∧ zJ σ' 8 2 = wgd th t ∧ (∀ c p, ¬ c = 79 → ¬ (c = 8 ∧ p = 2) → zJ σ' c p = zJ σ c p) ∧ σ'.1 = σ.1 ∧ σ'.2.2 = σ.2.2 := by
  have ht := hU.1
  unfold fX4_weighYes
  obtain ⟨ρ, f1, f2, f3, f4⟩ := q_fillJ (σ := σ) (j := 79) (n := 7) (by decide) (by decide) 0
  have w0 : ∀ v, zsJ 0 ρ 79 (0 : Int32) v = some (zwJ ρ 79 0 v) := fun v => zsJ_n (n := 7) (k := 0) (by decide) (by decide)
  rw [f1, Option.bind_some, w0, Option.bind_some]
  generalize htr : (fun u => tru n T pl sp (kd (tb u)) (tw u) (th u)) = tr
  suffices hl : ∃ b : Int32 × zSt, zLp (fun a : Int32 × zSt => bX4_weighYes_22 a.1 a.2) zFU ((0 : Int32), zwJ (zwJ ρ 79 0 1) 8 2 1) = some b ∧ ((∀ k, k < 7 → zJ b.2 79 k = wgt th tr t k) ∧ zJ b.2 8 2 = wgd th t ∧ (∀ c p, ¬ c = 79 → ¬ (c = 8 ∧ p = 2) → zJ b.2 c p = zJ σ c p) ∧ b.2.1 = σ.1 ∧ b.2.2.2 = σ.2.2) by
    obtain ⟨b, h1, h2⟩ := hl
    rw [h1, Option.bind_some]
    exact ⟨_, rfl, h2⟩
  refine zl_inv (body := fun a : Int32 × zSt => bX4_weighYes_22 a.1 a.2) (fun u a => a.1 = nI u ∧ (∀ k, k < 7 → zJ a.2 79 k = wgt th tr u k) ∧ zJ a.2 8 2 = wgd th u ∧ (∀ c p, ¬ c = 79 → ¬ (c = 8 ∧ p = 2) → zJ a.2 c p = zJ σ c p) ∧ a.2.1 = σ.1 ∧ a.2.2.2 = σ.2.2) t (fun b => (∀ k, k < 7 → zJ b.2 79 k = wgt th tr t k) ∧ zJ b.2 8 2 = wgd th t ∧ (∀ c p, ¬ c = 79 → ¬ (c = 8 ∧ p = 2) → zJ b.2 c p = zJ σ c p) ∧ b.2.1 = σ.1 ∧ b.2.2.2 = σ.2.2) (a := ((0 : Int32), zwJ (zwJ ρ 79 0 1) 8 2 1)) ⟨rfl, fun k hk => ?_, rfl, fun c p hc hd => ?_, f3, f4⟩ (fun u a hu hI => ?_) (fun a hI => ?_) (by omega)
  · show zJ (zwJ (zwJ ρ 79 0 1) 8 2 1) 79 k = _
    rw [zJ_ne (fun q => absurd q.1 (by decide)), zJ_wJ, wgt]
    by_cases e : k = 0
    · rw [if_pos ⟨rfl, e⟩, if_pos e]
    · rw [if_neg (fun q => e q.2), if_neg e, f2, if_pos ⟨rfl, hk⟩]
  · show zJ (zwJ (zwJ ρ 79 0 1) 8 2 1) c p = _
    rw [zJ_ne hd, zJ_ne (fun q => hc q.1), f2, if_neg (fun q => hc q.1)]
  · obtain ⟨x, s⟩ := a
    obtain ⟨g1, g2, g3, g4, g5, g6⟩ := hI
    have g1 : x = nI u := g1
    subst g1
    have zs : ∀ c k, zI s c k = zI σ c k := fun c k => by unfold zI; exact congrFun (congrFun g5 c) k
    have e2 : zrI 0 s (73 + u) (2 : Int32) = some (zI s (73 + u) 2) := zrI_n (k := 2) (zkLine u (by omega)) (by decide)
    have e5 : zrI 0 s (73 + u) (5 : Int32) = some (zI s (73 + u) 5) := zrI_n (k := 5) (zkLine u (by omega)) (by decide)
    obtain ⟨⟨b1, b2, b3, -⟩, ⟨c0, c1, c2, c3, c4, c5⟩, -⟩ := hU.2.2.2.2 u hu
    have et : zI s (73 + u) 5 = nI (tr u) := by rw [zs, c5, ← htr]
    have lt : tr u ≤ 1000 := by rw [← htr]; exact tru_le
    have bd : bX4_weighYes_22 (nI u) s = if nI (th u) = (0 : Int32) then (fX4_weighOne s (nI (tr u))).bind fun r11 => some (Sum.inl (nI u + 1, r11)) else some (Sum.inl (nI u + 1, s)) := by
      unfold bX4_weighYes_22
      rw [zs 8 1, hU.2.1, i_nle hu (by omega), zrA_n (n := 6) (by decide) (by omega), Option.bind_some, show 72 + 1 + u = 73 + u by omega, e2, Option.bind_some, Option.bind_some, e5, Option.bind_some, et, zs, c2]
    by_cases e : th u = 0
    · obtain ⟨s', k1, k2, k3, k4, k5, k6⟩ := c_weighOne (σ := s) (A := wgt th tr u) lt g2
      refine ⟨(nI u + 1, s'), ?_, nI_1 u, fun k hk => ?_, ?_, fun c p hc hd => ?_, ?_, ?_⟩
      · show bX4_weighYes_22 (nI u) s = _
        rw [bd, e, if_pos (show nI 0 = (0 : Int32) from rfl), k1, Option.bind_some]
      · rw [wgt_yes e]; exact k2 k hk
      · show zJ s' 8 2 = _
        have g3 : zJ s 8 2 = wgd th u := g3
        rw [k3, g3, wgd, if_pos e]
      · exact (k4 c p hc hd).trans (g4 c p hc hd)
      · exact k5.trans g5
      · exact k6.trans g6
    · refine ⟨(nI u + 1, s), ?_, nI_1 u, fun k hk => ?_, ?_, g4, g5, g6⟩
      · show bX4_weighYes_22 (nI u) s = _
        rw [bd, if_neg (nI_ne0 (by omega) (by omega))]
      · rw [wgt_no e]; exact g2 k hk
      · rw [wgd, if_neg e]; exact g3
  · obtain ⟨x, s⟩ := a
    obtain ⟨g1, g2⟩ := hI
    have g1 : x = nI t := g1
    subst g1
    refine ⟨(nI t, s), ?_, g2⟩
    have zs : ∀ c k, zI s c k = zI σ c k := fun c k => by unfold zI; exact congrFun (congrFun g2.2.2.2.1 c) k
    show bX4_weighYes_22 (nI t) s = _
    unfold bX4_weighYes_22
    rw [zs, hU.2.1, i_le (Nat.le_refl _) (by omega)]
theorem m_weighYes (hT : pT σ τ n T) (hC : pC σ τ c kd td) (hW : pW σ τ n v pl sp) (hU : pU σ τ n T c kd v pl sp t tb tw th ts tm) (x y : Int32) : ∃ s3 b5 b7, zsJ 1 τ 16 (0 : Int32) (1 : Int64) = some s3 ∧ zLp (fun a : Int32 × zSt => bX11_wrong_30 x y a.1 a.2) zFU ((1 : Int32), s3) = some b5 ∧ zLp (fun a : Int64 × Int32 × zSt => bX11_wrong_54 x y a.1 a.2.1 a.2.2) zFU ((1 : Int64), (0 : Int32), b5.2) = some b7 ∧ b7.1 = wgd th t ∧ (∀ k, k < 8 → zJ b7.2.2 16 k = wgt th (fun u => tru n T pl sp (kd (tb u)) (tw u) (th u)) t k) ∧ b7.2.2.1 = τ.1 := by
  have ht := hU.1
  have h6 := hT.2.1
  generalize htr : (fun u => tru n T pl sp (kd (tb u)) (tw u) (th u)) = tr
  obtain ⟨b5, l1, l2, l3⟩ := zl_inv (body := fun a : Int32 × zSt => bX11_wrong_30 x y a.1 a.2) (fun i a => a.1 = nI (i + 1) ∧ (∀ k, k ≤ i → zJ a.2 16 k = if k = 0 then 1 else 0) ∧ a.2.1 = τ.1) 7 (fun b => (∀ k, k ≤ 7 → zJ b.2 16 k = if k = 0 then 1 else 0) ∧ b.2.1 = τ.1) (a := ((1 : Int32), zwJ τ 16 0 1)) ⟨rfl, fun k hk => by rw [show k = 0 by omega]; rfl, rfl⟩ (fun i a hi hI => by
      obtain ⟨x3, s⟩ := a
      obtain ⟨g1, g2, g3⟩ := hI
      have g1 : x3 = nI (i + 1) := g1
      subst g1
      refine ⟨(nI (i + 1) + 1, zwJ s 16 (i + 1) 0), ?_, nI_1 _, fun k hk => ?_, g3⟩
      · show bX11_wrong_30 x y (nI (i + 1)) s = _
        unfold bX11_wrong_30
        rw [if_neg (show ¬ (8 : Int32) ≤ nI (i + 1) from nI_ge (b := 8) (by omega) (by decide)), zsJ_n (n := 8) (by decide) (by omega), Option.bind_some]
      · show zJ (zwJ s 16 (i + 1) 0) 16 k = _
        rw [zJ_wJ]
        by_cases e : k = i + 1
        · rw [if_pos ⟨rfl, e⟩, if_neg (by omega)]
        · rw [if_neg (fun q => e q.2)]
          exact g2 k (by omega)) (fun a hI => by
      obtain ⟨x3, s⟩ := a
      obtain ⟨g1, g2, g3⟩ := hI
      have g1 : x3 = nI 8 := g1
      subst g1
      refine ⟨(nI 8, s), ?_, g2, g3⟩
      show bX11_wrong_30 x y (nI 8) s = _
      unfold bX11_wrong_30
      rw [if_pos (by decide)]) (by decide)
  suffices hl : ∃ b : Int64 × Int32 × zSt, zLp (fun a : Int64 × Int32 × zSt => bX11_wrong_54 x y a.1 a.2.1 a.2.2) zFU ((1 : Int64), (0 : Int32), b5.2) = some b ∧ (b.1 = wgd th t ∧ (∀ k, k < 8 → zJ b.2.2 16 k = wgt th tr t k) ∧ b.2.2.1 = τ.1) by
    obtain ⟨b7, k1, k2, k3, k4⟩ := hl
    exact ⟨_, b5, b7, zsJ_n (n := 8) (k := 0) (by decide) (by decide), l1, k1, k2, k3, k4⟩
  refine zl_inv (body := fun a : Int64 × Int32 × zSt => bX11_wrong_54 x y a.1 a.2.1 a.2.2) (fun u a => a.1 = wgd th u ∧ a.2.1 = nI u ∧ (∀ k, k < 8 → zJ a.2.2 16 k = wgt th tr u k) ∧ a.2.2.1 = τ.1) t (fun b => b.1 = wgd th t ∧ (∀ k, k < 8 → zJ b.2.2 16 k = wgt th tr t k) ∧ b.2.2.1 = τ.1) (a := ((1 : Int64), (0 : Int32), b5.2)) ⟨rfl, rfl, fun k hk => l2 k (by omega), l3⟩ (fun u a hu hI => ?_) (fun a hI => ?_) (by omega)
  · obtain ⟨w, x5, s⟩ := a
    obtain ⟨g1, g2, g3, g4⟩ := hI
    have g1 : w = wgd th u := g1
    have g2 : x5 = nI u := g2
    subst g1
    subst g2
    have zs : ∀ c k, zI s c k = zI τ c k := fun c k => by unfold zI; exact congrFun (congrFun g4 c) k
    have hv := hU.2.2.2.1 (by omega)
    subst hv
    obtain ⟨⟨b1, b2, b3, -⟩, -, m1, m2, m3, -⟩ := hU.2.2.2.2 u hu
    have tq : fX11_truthOf s (nI u) = some (nI (tr u)) := by
      rw [m_truth (σ := σ) (τ := s) (hT.mv rfl (fun _ _ _ _ => rfl) (zs _ _) (fun _ => zs _ _)) (hC.mv rfl (fun _ _ _ _ => rfl) (zs _ _) (fun _ _ _ _ => zs _ _)) (hW.mv (fun _ _ _ => rfl) (zs _ _) (zs _ _) (fun _ => zs _ _) h6) (hU.mv rfl (fun _ _ _ _ => rfl) (zs _ _) (fun _ _ _ _ => zs _ _)) hu, ← htr]
    have lt : tr u ≤ 1000 := by rw [← htr]; exact tru_le
    by_cases e : th u = 0
    · obtain ⟨b, j1, j2, j3⟩ := m_weighOne (τ := s) (A := wgt th tr u) (r := tr u) x y (nI u) (wgd th u) g3
      refine ⟨(wgd th u * 1000, nI u + 1, b.2), ?_, ?_, nI_1 u, fun k hk => ?_, j3.trans g4⟩
      · show bX11_wrong_54 x y (wgd th u) (nI u) s = _
        unfold bX11_wrong_54
        rw [zs 0 19, hU.2.2.1, i_nle hu (by omega), zrI_n (n := 6) (by decide) (by omega), Option.bind_some, zs, m3, e, if_pos (show nI 0 = (0 : Int32) from rfl), tq, Option.bind_some, nI_l (by omega), j1, Option.bind_some]
      · show wgd th u * 1000 = wgd th (u + 1)
        rw [wgd, if_pos e]
      · rw [wgt_yes e]; exact j2 k hk
    · refine ⟨(wgd th u, nI u + 1, s), ?_, ?_, nI_1 u, fun k hk => ?_, g4⟩
      · show bX11_wrong_54 x y (wgd th u) (nI u) s = _
        unfold bX11_wrong_54
        rw [zs 0 19, hU.2.2.1, i_nle hu (by omega), zrI_n (n := 6) (by decide) (by omega), Option.bind_some, zs, m3, if_neg (nI_ne0 (by omega) (by omega))]
      · show wgd th u = wgd th (u + 1)
        rw [wgd, if_neg e]
      · rw [wgt_no e]; exact g3 k hk
  · obtain ⟨w, x5, s⟩ := a
    obtain ⟨g1, g2, g3, g4⟩ := hI
    have g2 : x5 = nI t := g2
    subst g2
    have zs : ∀ c k, zI s c k = zI τ c k := fun c k => by unfold zI; exact congrFun (congrFun g4 c) k
    refine ⟨(w, nI t, s), ?_, g1, g3, g4⟩
    show bX11_wrong_54 x y w (nI t) s = _
    unfold bX11_wrong_54
    rw [zs, hU.2.2.1, i_le (Nat.le_refl _) (by omega)]
end WRONG
theorem q_wrong {σ τ : zSt} (h : Inv σ τ) (x y : Int32) : ∃ r σ' τ', fX10_wrong σ x y = some (r, σ') ∧ fX11_wrong τ x y = some (r, τ') ∧ Inv σ' τ' := by
  have h9 := h
  obtain ⟨n, T, c, kd, td, v, pl, sp, t, tb, tw, th, ts, tm, hA, hT, hC, hW, hU, hR, hX⟩ := h
  have h6 := hT.2.1
  have ht := hU.1
  unfold fX10_wrong fX11_wrong fX11_within
  generalize (-9223372036854775808 : Int64) = lost
  by_cases x0 : x < 0
  · rw [if_pos x0, if_pos x0, i00]
    exact ⟨_, _, _, rfl, rfl, h9⟩
  rw [if_neg x0, if_neg x0]
  by_cases x1 : 7 < x
  · rw [if_pos x1, if_pos x1, i00]
    exact ⟨_, _, _, rfl, rfl, h9⟩
  rw [if_neg x1, if_neg x1, i10, z_which, z_whichM]
  rcases zIn_c y (m := 2) (by decide) with e | ⟨w, hw, rfl, e⟩
  · rw [e, i00, i00]
    exact ⟨_, _, _, rfl, rfl, h9⟩
  rw [e, i10, i10]
  obtain ⟨m, hm0, rfl⟩ := nI_of x0
  have hm : m ≤ 7 := by
    rcases Nat.lt_or_ge 7 m with q | q
    · exact absurd (nI_lt (a := 7) q hm0) x1
    · exact q
  obtain ⟨σ', c1, c2, c3, c4, c5, c6⟩ := c_weighYes h6 hU
  obtain ⟨s3, b5, b7, d1, d2, d3, d4, d5, d6⟩ := m_weighYes hT hC hW hU (nI m) (nI w)
  generalize (fun u => tru n T pl sp (kd (tb u)) (tw u) (th u)) = tr at c2 d5
  have f1 : fX4_fewerThan σ' (nI m) = some (wgs (wgt th tr t) m) := by
    unfold fX4_fewerThan
    rw [zl_run (body := fun a : Int64 × Int32 => bX4_fewerThan_5 σ' (nI m) a.1 a.2) (a := ((0 : Int64), (0 : Int32))) (fun j => (wgs (wgt th tr t) j, nI j)) m (b := (wgs (wgt th tr t) m, nI m)) rfl ?_ ?_ (by omega)]
    · rfl
    · intro j hj
      show bX4_fewerThan_5 σ' (nI m) (wgs _ j) (nI j) = _
      unfold bX4_fewerThan_5
      rw [i_nle hj (by omega), if_neg (show ¬ (6 : Int32) < nI j from nI_nlt (b := j) (a := 6) (by omega) (by decide)), zrJ_n (n := 7) (by decide) (by omega), Option.bind_some, c2 j (by omega), nI_1]
      rfl
    · show bX4_fewerThan_5 σ' (nI m) (wgs _ m) (nI m) = _
      unfold bX4_fewerThan_5
      rw [i_le (Nat.le_refl _) (by omega)]
  have f2 : zLp (fun a : Int64 × Int32 => bX11_wrong_158 b7.2.2 (nI m) (nI w) b7.1 a.1 a.2) zFU ((0 : Int64), (0 : Int32)) = some (wgs (wgt th tr t) m, nI m) := by
    refine zl_run (fun j => (wgs (wgt th tr t) j, nI j)) m rfl (fun j hj => ?_) ?_ (by omega)
    · show bX11_wrong_158 b7.2.2 (nI m) (nI w) b7.1 (wgs _ j) (nI j) = _
      unfold bX11_wrong_158
      rw [i_nle hj (by omega), zrJ_n (n := 8) (by decide) (by omega), Option.bind_some, d5 j (by omega), nI_1]
      rfl
    · show bX11_wrong_158 b7.2.2 (nI m) (nI w) b7.1 (wgs _ m) (nI m) = _
      unfold bX11_wrong_158
      rw [i_le (Nat.le_refl _) (by omega)]
  obtain ⟨e1, he, hd⟩ := wgd_n th t
  obtain ⟨r, r1, r2⟩ := q_share (wgs (wgt th tr t) m) (wgd th t) (nI w) (by rw [hd]; exact wgd_0 e1 (by omega))
  rw [c1, Option.bind_some, f1, Option.bind_some, c3, r1, Option.bind_some, d1, Option.bind_some, d2, Option.bind_some, d3, Option.bind_some, f2, Option.bind_some, d4, r2, Option.bind_some]
  have zc : ∀ c k, zI σ' c k = zI σ c k := fun c k => by unfold zI; exact congrFun (congrFun c5 c) k
  have zm : ∀ c k, zI b7.2.2 c k = zI τ c k := fun c k => by unfold zI; exact congrFun (congrFun d6 c) k
  have zr : ∀ c k, zR σ' c k = zR σ c k := fun c k => by unfold zR; exact congrFun (congrFun c6 c) k
  refine ⟨_, _, _, rfl, rfl, h9.mv (fun c k _ => zc c k) (fun c k _ => zm c k) ?_ (hR.mv (zr _ _) (zr _ _) (zr _ _) (zr _ _) (zc _ _) (c4 9 3 (by decide) (by decide)))⟩
  rw [zc, zm]
  exact hX.1
