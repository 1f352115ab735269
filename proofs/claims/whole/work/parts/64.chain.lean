/-! THE CHAIN of hands -/
section CHAIN
/-- one hand more: what comes to a word -/
def chf (C : Nat → Nat → Nat) (D : Nat → Int64) (b : Nat) : Nat → Int64
  | 0 => 0
  | j + 1 => chf C D b j + D j * lN (C j b)
/-- the landed chain holds D for the words and w for the whole -/
def pCh (σ : zSt) (n : Nat) (D : Nat → Int64) (w : Int64) : Prop := ∃ p q, ((p = 69 ∧ q = 70) ∨ (p = 70 ∧ q = 69)) ∧ zR σ 7 1 = p ∧ zR σ 7 2 = q ∧ (∀ k, k < n → zJ σ p k = D k) ∧ zJ σ 7 0 = w
/-- what the chain leaves as it was -/
def pFr (σ' σ : zSt) : Prop := (∀ c k, ¬ c = 71 → zI σ' c k = zI σ c k) ∧ (∀ k, zJ σ' 9 k = zJ σ 9 k) ∧ ∀ k, zR σ' 9 k = zR σ 9 k
theorem pFr.trans {a b c : zSt} (h1 : pFr a b) (h2 : pFr b c) : pFr a c := ⟨fun x k h => (h1.1 x k h).trans (h2.1 x k h), fun k => (h1.2.1 k).trans (h2.2.1 k), fun k => (h1.2.2 k).trans (h2.2.2 k)⟩
theorem pFr.toT {σ σ' τ : zSt} {n : Nat} {T : Nat → Nat → Nat → Nat} (h : pFr σ' σ) (hT : pT σ τ n T) : pT σ' τ n T := hT.mv (h.1 _ _ (by decide)) (fun c k h1 h2 => h.1 c k (by omega)) rfl (fun _ => rfl)
theorem pFr.toC {σ σ' τ : zSt} {c : Nat} {kd td : Nat → Nat} (h : pFr σ' σ) (hC : pC σ τ c kd td) : pC σ' τ c kd td := hC.mv (h.1 _ _ (by decide)) (fun c k h1 h2 => h.1 c k (by omega)) rfl (fun _ _ _ _ => rfl)
theorem Inv.chain {σ σ' τ τ' : zSt} (h : Inv σ τ) (hF : pFr σ' σ) {n : Nat} {D : Nat → Int64} {w : Int64} (hD : pCh σ' n D w) (ht : τ'.1 = τ.1) : Inv σ' τ' := by
  have zm : ∀ c k, zI τ' c k = zI τ c k := fun c k => by unfold zI; exact congrFun (congrFun ht c) k
  refine h.mv (fun c k hc => hF.1 c k (by unfold zcoC at hc; omega)) (fun c k _ => zm c k) ?_ ?_
  · obtain ⟨n, T, c, kd, td, v, pl, sp, t, tb, tw, th, ts, tm, hA, hT, hC, hW, hU, hR, hX⟩ := h
    rw [hF.1 0 10 (by decide), zm]
    exact hX.1
  · obtain ⟨n, T, c, kd, td, v, pl, sp, t, tb, tw, th, ts, tm, hA, hT, hC, hW, hU, hR, hX⟩ := h
    obtain ⟨p, q, e, h1, h2, -⟩ := hD
    refine ⟨?_, ?_, ?_⟩
    · rw [h1, h2]; exact e
    · rw [hF.2.2, hF.2.2]; exact hR.2.1
    · rw [hF.1 9 2 (by decide), hF.2.1]; exact hR.2.2
theorem c_begin {σ : zSt} (hR : pR σ) {n a : Nat} (hn : n ≤ 6) (ha : a < n) : ∃ σ', fX1_begin σ (nI a) = some σ' ∧ pCh σ' n (fun k => if k = a then 1 else 0) 1 ∧ pFr σ' σ := by
  unfold fX1_begin
  have key : ∀ p q, ((p = 69 ∧ q = 70) ∨ (p = 70 ∧ q = 69)) → zR σ 7 1 = p → zR σ 7 2 = q → ∃ σ', ((fJ7_fill_d0a16 (zwJ σ 7 0 (1 : Int64)) (zR (zwJ σ 7 0 (1 : Int64)) 7 1) (0 : Int64)).bind fun r1 => (zsJ 0 r1 (zR r1 7 1) (nI a) (1 : Int64)).bind fun s3 => some s3) = some σ' ∧ pCh σ' n (fun k => if k = a then 1 else 0) 1 ∧ pFr σ' σ := by
    intro p q e h1 h2
    have kp : zkJ 0 p 6 := by rcases e with e | e <;> rw [e.1] <;> decide
    have h1' : zR (zwJ σ 7 0 (1 : Int64)) 7 1 = p := h1
    obtain ⟨ρ, f1, f2, f3, f4⟩ := q_fillJ (σ := zwJ σ 7 0 (1 : Int64)) (j := p) (n := 6) kp (by decide) 0
    have rr : ∀ c k, zR ρ c k = zR σ c k := fun c k => by unfold zR; exact congrFun (congrFun f4 c) k
    have ri : ∀ c k, zI ρ c k = zI σ c k := fun c k => by unfold zI; exact congrFun (congrFun f3 c) k
    rw [h1', f1, Option.bind_some, rr, h1, zsJ_n kp (by omega), Option.bind_some]
    refine ⟨_, rfl, ⟨p, q, e, ?_, ?_, fun k hk => ?_, ?_⟩, fun c k _ => ri c k, fun k => ?_, fun k => rr 9 k⟩
    · show zR ρ 7 1 = p
      rw [rr, h1]
    · show zR ρ 7 2 = q
      rw [rr, h2]
    · rw [zJ_wJ]
      by_cases g : k = a
      · rw [if_pos ⟨rfl, g⟩]
        exact (if_pos g).symm
      · rw [if_neg (fun q => g q.2), f2, if_pos ⟨rfl, by omega⟩]
        exact (if_neg g).symm
    · rw [zJ_ne (by omega), f2, if_neg (by omega), zJ_self]
    · rw [zJ_ne (by omega), f2, if_neg (by omega), zJ_ne (by omega)]
  rcases hR.1 with ⟨h1, h2⟩ | ⟨h1, h2⟩
  · exact key 69 70 (Or.inl ⟨rfl, rfl⟩) h1 h2
  · exact key 70 69 (Or.inr ⟨rfl, rfl⟩) h1 h2
theorem c_hand {σ τ : zSt} {n : Nat} {T : Nat → Nat → Nat → Nat} (hT : pT σ τ n T) {D : Nat → Int64} {w : Int64} (hD : pCh σ n D w) {y k t : Nat} (hy : y < 2) (hk : k ≤ 2) (ht : t ≤ 9) : ∃ σ', fX1_hand σ (nI y) (nI k) (nI t) = some σ' ∧ pCh σ' n (fun b => chf (fun a b => crr n k t (T y a) b) D b n) (w * 144) ∧ pFr σ' σ := by
  have h6 := hT.2.1
  obtain ⟨p, q, e, h1, h2, hp, hw⟩ := hD
  have kp : zkJ 0 p 6 := by rcases e with e | e <;> rw [e.1] <;> decide
  have kq : zkJ 0 q 6 := by rcases e with e | e <;> rw [e.2] <;> decide
  generalize hCC : (fun a b => crr n k t (T y a) b) = C
  have hC : ∀ a b, crr n k t (T y a) b = C a b := fun a b => by rw [← hCC]
  unfold fX1_hand
  obtain ⟨ρ, f1, f2, f3, f4⟩ := q_fillJ (σ := σ) (j := q) (n := 6) kq (by decide) 0
  rw [h2, f1, Option.bind_some]
  suffices hl : ∃ b : Int32 × zSt, zLp (fun a : Int32 × zSt => bX1_hand_11 (nI y) (nI k) (nI t) a.1 a.2) zFU ((0 : Int32), ρ) = some b ∧ (b.2.2.2 = σ.2.2 ∧ (∀ k, k < n → zJ b.2 q k = chf C D k n) ∧ (∀ c k, ¬ c = q → zJ b.2 c k = zJ σ c k) ∧ ∀ c k, ¬ c = 71 → zI b.2 c k = zI σ c k) by
    obtain ⟨⟨x, s⟩, g1, g2, g3, g4, g5⟩ := hl
    have g2 : s.2.2 = σ.2.2 := g2
    have g3 : ∀ k, k < n → zJ s q k = chf C D k n := g3
    have g4 : ∀ c k, ¬ c = q → zJ s c k = zJ σ c k := g4
    have rr : ∀ c k, zR s c k = zR σ c k := fun c k => by unfold zR; exact congrFun (congrFun g2 c) k
    rw [g1, Option.bind_some]
    refine ⟨_, rfl, ⟨q, p, by omega, ?_, ?_, fun k hk => ?_, ?_⟩, fun c k hc => ?_, fun k => ?_, fun k => ?_⟩
    · show zR (zwR (zwR s 7 1 (zR s 7 2)) 7 2 (zR s 7 1)) 7 1 = q
      rw [zR_ne (by decide), zR_self, rr, h2]
    · show zR (zwR (zwR s 7 1 (zR s 7 2)) 7 2 (zR s 7 1)) 7 2 = p
      rw [zR_self, rr, h1]
    · rw [zJ_ne (by omega)]
      exact g3 k hk
    · rw [zJ_self]
      show zJ s 7 0 * 144 = _
      rw [g4 7 0 (by omega), hw]
    · exact g5 c k hc
    · rw [zJ_ne (by omega)]
      exact g4 9 k (by omega)
    · show zR (zwR (zwR s 7 1 (zR s 7 2)) 7 2 (zR s 7 1)) 9 k = _
      rw [zR_ne (by omega), zR_ne (by omega), rr]
  refine zl_inv (body := fun a : Int32 × zSt => bX1_hand_11 (nI y) (nI k) (nI t) a.1 a.2) (fun j a => a.1 = nI j ∧ a.2.2.2 = σ.2.2 ∧ (∀ k, k < n → zJ a.2 q k = chf C D k j) ∧ (∀ c k, ¬ c = q → zJ a.2 c k = zJ σ c k) ∧ ∀ c k, ¬ c = 71 → zI a.2 c k = zI σ c k) n _ ⟨rfl, f4, fun k hk => ?_, fun c k hc => ?_, fun c k _ => ?_⟩ (fun j a hj hI => ?_) (fun a hI => ?_) (by omega)
  · show zJ ρ q k = 0
    rw [f2, if_pos ⟨rfl, by omega⟩]
  · show zJ ρ c k = _
    rw [f2, if_neg (fun q => hc q.1)]
  · show zI ρ c k = _
    unfold zI
    exact congrFun (congrFun f3 c) k
  · obtain ⟨x, s⟩ := a
    obtain ⟨g1, g2, g3, g4, g5⟩ := hI
    have g1 : x = nI j := g1
    subst g1
    have g2 : s.2.2 = σ.2.2 := g2
    have g3 : ∀ k, k < n → zJ s q k = chf C D k j := g3
    have g4 : ∀ c k, ¬ c = q → zJ s c k = zJ σ c k := g4
    have g5 : ∀ c k, ¬ c = 71 → zI s c k = zI σ c k := g5
    have hTs : pT s τ n T := hT.mv (g5 _ _ (by decide)) (fun c k h1 h2 => g5 c k (by omega)) rfl (fun _ => rfl)
    obtain ⟨s2, c1, c2, c3⟩ := c_carry hTs (q := 71) hy hj hk ht (by decide) (by decide)
    have hl : ∃ b : Int32 × zSt, zLp (fun a : Int32 × zSt => bX1_hand_37 (nI y) (nI k) (nI t) (nI j) a.1 a.2) zFU ((0 : Int32), s2) = some b ∧ (b.2.1 = s2.1 ∧ b.2.2.2 = σ.2.2 ∧ (∀ k, k < n → zJ b.2 q k = chf C D k (j + 1)) ∧ ∀ c k, ¬ c = q → zJ b.2 c k = zJ σ c k) := by
      have j2 : ∀ c k, zJ s2 c k = zJ s c k := fun c k => by unfold zJ; rw [c3]
      refine zl_inv (body := fun a : Int32 × zSt => bX1_hand_37 (nI y) (nI k) (nI t) (nI j) a.1 a.2) (fun i a => a.1 = nI i ∧ a.2.1 = s2.1 ∧ a.2.2.2 = σ.2.2 ∧ (∀ k, k < n → zJ a.2 q k = if k < i then chf C D k (j + 1) else chf C D k j) ∧ ∀ c k, ¬ c = q → zJ a.2 c k = zJ σ c k) n _ ⟨rfl, rfl, ?_, fun k hk => ?_, fun c k hc => ?_⟩ (fun i a hi hI => ?_) (fun a hI => ?_) (by omega)
      · show s2.2.2 = σ.2.2
        rw [c3]; exact g2
      · show zJ s2 q k = _
        rw [j2, g3 k hk, if_neg (by omega)]
      · show zJ s2 c k = _
        rw [j2, g4 c k hc]
      · obtain ⟨x, r⟩ := a
        obtain ⟨k1, k2, k3, k4, k5⟩ := hI
        have k1 : x = nI i := k1
        subst k1
        have k2 : r.1 = s2.1 := k2
        have k3 : r.2.2 = σ.2.2 := k3
        have k4 : ∀ k, k < n → zJ r q k = if k < i then chf C D k (j + 1) else chf C D k j := k4
        have k5 : ∀ c k, ¬ c = q → zJ r c k = zJ σ c k := k5
        have rr : ∀ c k, zR r c k = zR σ c k := fun c k => by unfold zR; exact congrFun (congrFun k3 c) k
        have ri : ∀ c k, zI r c k = zI s2 c k := fun c k => by unfold zI; exact congrFun (congrFun k2 c) k
        have r30 : zI r 3 0 = nI n := by rw [ri, c2, if_neg (fun q => absurd q.1 (by decide))]; exact hTs.2.2.1
        have v71 : zI r 71 i = nI (C j i) := by rw [ri, c2, if_pos ⟨rfl, hi⟩, hC]
        have cb : crr n k t (T y j) i ≤ 144 := crr_le hi (hT.sums hy hj)
        refine ⟨(nI i + 1, zwJ r q i (chf C D i (j + 1))), ?_, nI_1 i, ?_, ?_, fun k hk => ?_, fun c k hc => ?_⟩
        · show bX1_hand_37 (nI y) (nI k) (nI t) (nI j) (nI i) r = _
          unfold bX1_hand_37
          rw [r30, i_nle hi (by omega), rr, rr, h1, h2, zrJ_n kq (by omega), Option.bind_some, zrJ_n kp (by omega), Option.bind_some, zrI_n (n := 6) (by decide) (by omega), Option.bind_some, zsJ_n kq (by omega), Option.bind_some, v71, k4 i hi, if_neg (Nat.lt_irrefl i), k5 p j (by omega), hp j hj, nI_l (by rw [← hC]; omega)]
          rfl
        · show r.1 = s2.1
          exact k2
        · show r.2.2 = σ.2.2
          exact k3
        · show zJ (zwJ r q i _) q k = _
          rw [zJ_wJ]
          by_cases g : k = i
          · rw [if_pos ⟨rfl, g⟩, if_pos (by omega), g]
          · rw [if_neg (fun q => g q.2), k4 k hk]
            by_cases g2 : k < i
            · rw [if_pos g2, if_pos (by omega)]
            · rw [if_neg g2, if_neg (by omega)]
        · show zJ (zwJ r q i _) c k = _
          rw [zJ_ne (fun q => hc q.1)]
          exact k5 c k hc
      · obtain ⟨x, r⟩ := a
        obtain ⟨k1, k2, k3, k4, k5⟩ := hI
        have k1 : x = nI n := k1
        subst k1
        have ri : ∀ c k, zI r c k = zI s2 c k := fun c k => by unfold zI; exact congrFun (congrFun k2 c) k
        have r30 : zI r 3 0 = nI n := by rw [ri, c2, if_neg (fun q => absurd q.1 (by decide))]; exact hTs.2.2.1
        refine ⟨(nI n, r), ?_, k2, k3, fun k hk => ?_, k5⟩
        · show bX1_hand_37 (nI y) (nI k) (nI t) (nI j) (nI n) r = _
          unfold bX1_hand_37
          rw [r30, i_le (Nat.le_refl _) (by omega)]
        · have := k4 k hk
          rw [if_pos hk] at this
          exact this
    obtain ⟨⟨x, r⟩, l1, l2, l3, l4, l5⟩ := hl
    refine ⟨(nI j + 1, r), ?_, nI_1 j, l3, l4, l5, fun c k hc => ?_⟩
    · show bX1_hand_11 (nI y) (nI _) (nI t) (nI j) s = _
      unfold bX1_hand_11
      rw [hTs.2.2.1, i_nle hj (by omega), c1, Option.bind_some, l1, Option.bind_some]
    · show zI r c k = _
      have l2 : r.1 = s2.1 := l2
      have ri : zI r c k = zI s2 c k := by unfold zI; exact congrFun (congrFun l2 c) k
      rw [ri, c2, if_neg (fun q => hc q.1)]
      exact g5 c k hc
  · obtain ⟨x, s⟩ := a
    obtain ⟨g1, g2⟩ := hI
    have g1 : x = nI n := g1
    subst g1
    refine ⟨(nI n, s), ?_, g2⟩
    show bX1_hand_11 (nI y) (nI k) (nI t) (nI n) s = _
    unfold bX1_hand_11
    rw [g2.2.2.2 3 0 (by decide), hT.2.2.1, i_le (Nat.le_refl _) (by omega)]
end CHAIN
