/-! HANDS -/
section HANDS2
theorem m_carryOn {σ τ : zSt} {n : Nat} {T : Nat → Nat → Nat → Nat} (hT : pT σ τ n T) {c : Nat} {kd td : Nat → Nat} (hC : pC σ τ c kd td) {x y : Nat} (hx : x < c) (hy : y < 2) {D : Nat → Int64} (hD : ∀ k, k < n → zJ τ 8 k = D k) : ∃ τ', fX11_carryOn τ (nI x) (nI y) = some τ' ∧ (∀ k, k < n → zJ τ' 8 k = chf (fun a b => crr n (kd x) (td x) (T y a) b) D k n) ∧ τ'.1 = τ.1 := by
  have h6 := hT.2.1
  generalize hCC : (fun a b => crr n (kd x) (td x) (T y a) b) = C
  have hCe : ∀ a b, crr n (kd x) (td x) (T y a) b = C a b := fun a b => by rw [← hCC]
  have zof : ∀ s : zSt, s.1 = τ.1 → ∀ c k, zI s c k = zI τ c k := fun s h c k => by unfold zI; exact congrFun (congrFun h c) k
  have n0 : ∀ s : zSt, s.1 = τ.1 → zI s 0 5 = nI n := fun s h => (zof s h 0 5).trans hT.2.2.2.1
  obtain ⟨⟨y1, s1⟩, l1, l2, l3, l4⟩ : ∃ b : Int32 × zSt, zLp (fun a : Int32 × zSt => bX11_carryOn_2 (nI x) (nI y) a.1 a.2) zFU ((0 : Int32), τ) = some b ∧ ((∀ k, k < n → zJ b.2 9 k = 0) ∧ (∀ k, zJ b.2 8 k = zJ τ 8 k) ∧ b.2.1 = τ.1) := by
    refine zl_inv (body := fun a : Int32 × zSt => bX11_carryOn_2 (nI x) (nI y) a.1 a.2) (fun j a => a.1 = nI j ∧ (∀ k, k < j → zJ a.2 9 k = 0) ∧ (∀ k, zJ a.2 8 k = zJ τ 8 k) ∧ a.2.1 = τ.1) n _ ⟨rfl, fun k hk => absurd hk (Nat.not_lt_zero _), fun _ => rfl, rfl⟩ (fun j a hj hI => ?_) (fun a hI => ?_) (by omega)
    · obtain ⟨z, s⟩ := a
      obtain ⟨g1, g2, g3, g4⟩ := hI
      have g1 : z = nI j := g1
      subst g1
      have g2 : ∀ k, k < j → zJ s 9 k = 0 := g2
      refine ⟨(nI j + 1, zwJ s 9 j 0), ?_, nI_1 j, fun k hk => ?_, fun k => ?_, g4⟩
      · show bX11_carryOn_2 (nI x) (nI y) (nI j) s = _
        unfold bX11_carryOn_2
        rw [n0 s g4, i_nle hj (by omega), zsJ_n (n := 6) (by decide) (by omega), Option.bind_some]
      · show zJ (zwJ s 9 j 0) 9 k = 0
        rw [zJ_wJ]
        split
        · rfl
        · exact g2 k (by omega)
      · show zJ (zwJ s 9 j 0) 8 k = _
        rw [zJ_ne (by omega)]
        exact g3 k
    · obtain ⟨z, s⟩ := a
      obtain ⟨g1, g2, g3, g4⟩ := hI
      have g1 : z = nI n := g1
      subst g1
      refine ⟨(nI n, s), ?_, g2, g3, g4⟩
      show bX11_carryOn_2 (nI x) (nI y) (nI n) s = _
      unfold bX11_carryOn_2
      rw [n0 s g4, i_le (Nat.le_refl _) (by omega)]
  have l2 : ∀ k, k < n → zJ s1 9 k = 0 := l2
  have l3 : ∀ k, zJ s1 8 k = zJ τ 8 k := l3
  have l4 : s1.1 = τ.1 := l4
  obtain ⟨⟨y2, s2⟩, o1, o2, o3, o4⟩ : ∃ b : Int32 × zSt, zLp (fun a : Int32 × zSt => bX11_carryOn_25 (nI x) (nI y) a.1 a.2) zFU ((0 : Int32), s1) = some b ∧ ((∀ k, k < n → zJ b.2 9 k = chf C D k n) ∧ (∀ k, zJ b.2 8 k = zJ τ 8 k) ∧ b.2.1 = τ.1) := by
    refine zl_inv (body := fun a : Int32 × zSt => bX11_carryOn_25 (nI x) (nI y) a.1 a.2) (fun j a => a.1 = nI j ∧ (∀ k, k < n → zJ a.2 9 k = chf C D k j) ∧ (∀ k, zJ a.2 8 k = zJ τ 8 k) ∧ a.2.1 = τ.1) n _ ⟨rfl, fun k hk => l2 k hk, l3, l4⟩ (fun j a hj hI => ?_) (fun a hI => ?_) (by omega)
    · obtain ⟨z, s⟩ := a
      obtain ⟨g1, g2, g3, g4⟩ := hI
      have g1 : z = nI j := g1
      subst g1
      have g2 : ∀ k, k < n → zJ s 9 k = chf C D k j := g2
      have g3 : ∀ k, zJ s 8 k = zJ τ 8 k := g3
      have g4 : s.1 = τ.1 := g4
      obtain ⟨⟨y3, s3⟩, p1, p2, p3, p4⟩ : ∃ b : Int32 × zSt, zLp (fun a : Int32 × zSt => bX11_carryOn_36 (nI x) (nI y) (nI j) a.1 a.2) zFU ((0 : Int32), s) = some b ∧ ((∀ k, k < n → zJ b.2 9 k = chf C D k (j + 1)) ∧ (∀ k, zJ b.2 8 k = zJ τ 8 k) ∧ b.2.1 = τ.1) := by
        refine zl_inv (body := fun a : Int32 × zSt => bX11_carryOn_36 (nI x) (nI y) (nI j) a.1 a.2) (fun i a => a.1 = nI i ∧ (∀ k, k < n → zJ a.2 9 k = if k < i then chf C D k (j + 1) else chf C D k j) ∧ (∀ k, zJ a.2 8 k = zJ τ 8 k) ∧ a.2.1 = τ.1) n _ ⟨rfl, fun k hk => by rw [if_neg (by omega)]; exact g2 k hk, g3, g4⟩ (fun i a hi hI => ?_) (fun a hI => ?_) (by omega)
        · obtain ⟨z, r⟩ := a
          obtain ⟨k1, k2, k3, k4⟩ := hI
          have k1 : z = nI i := k1
          subst k1
          have k2 : ∀ k, k < n → zJ r 9 k = if k < i then chf C D k (j + 1) else chf C D k j := k2
          have k3 : ∀ k, zJ r 8 k = zJ τ 8 k := k3
          have zr := zof r k4
          have cb : crr n (kd x) (td x) (T y j) i ≤ 144 := crr_le hi (hT.sums hy hj)
          have mc : fX11_carried r (nI x) (nI y) (nI j) (nI i) = some (nI (C j i)) := by
            rw [m_carried (σ := σ) (τ := r) (hT.mv rfl (fun _ _ _ _ => rfl) (zr _ _) (fun _ => zr _ _)) (hC.mv rfl (fun _ _ _ _ => rfl) (zr _ _) (fun _ _ _ _ => zr _ _)) hx hy hj hi, hCe]
          refine ⟨(nI i + 1, zwJ r 9 i (chf C D i (j + 1))), ?_, nI_1 i, fun k hk => ?_, fun k => ?_, k4⟩
          · show bX11_carryOn_36 (nI x) (nI y) (nI j) (nI i) r = _
            unfold bX11_carryOn_36
            rw [n0 r k4, i_nle hi (by omega), zrJ_n (n := 6) (by decide) (by omega), Option.bind_some, zrJ_n (n := 6) (by decide) (by omega), Option.bind_some, mc, Option.bind_some, zsJ_n (n := 6) (by decide) (by omega), Option.bind_some, k2 i hi, if_neg (Nat.lt_irrefl i), k3, hD j hj, nI_l (by rw [← hCe]; omega)]
            rfl
          · show zJ (zwJ r 9 i _) 9 k = _
            rw [zJ_wJ]
            by_cases g : k = i
            · rw [if_pos ⟨rfl, g⟩, if_pos (by omega), g]
            · rw [if_neg (fun q => g q.2), k2 k hk]
              by_cases g2 : k < i
              · rw [if_pos g2, if_pos (by omega)]
              · rw [if_neg g2, if_neg (by omega)]
          · show zJ (zwJ r 9 i _) 8 k = _
            rw [zJ_ne (by omega)]
            exact k3 k
        · obtain ⟨z, r⟩ := a
          obtain ⟨k1, k2, k3, k4⟩ := hI
          have k1 : z = nI n := k1
          subst k1
          refine ⟨(nI n, r), ?_, fun k hk => ?_, k3, k4⟩
          · show bX11_carryOn_36 (nI x) (nI y) (nI j) (nI n) r = _
            unfold bX11_carryOn_36
            rw [n0 r k4, i_le (Nat.le_refl _) (by omega)]
          · have := k2 k hk
            rw [if_pos hk] at this
            exact this
      refine ⟨(nI j + 1, s3), ?_, nI_1 j, p2, p3, p4⟩
      show bX11_carryOn_25 (nI x) (nI y) (nI j) s = _
      unfold bX11_carryOn_25
      rw [n0 s g4, i_nle hj (by omega), p1, Option.bind_some]
    · obtain ⟨z, s⟩ := a
      obtain ⟨g1, g2, g3, g4⟩ := hI
      have g1 : z = nI n := g1
      subst g1
      refine ⟨(nI n, s), ?_, g2, g3, g4⟩
      show bX11_carryOn_25 (nI x) (nI y) (nI n) s = _
      unfold bX11_carryOn_25
      rw [n0 s g4, i_le (Nat.le_refl _) (by omega)]
  have o2 : ∀ k, k < n → zJ s2 9 k = chf C D k n := o2
  have o4 : s2.1 = τ.1 := o4
  obtain ⟨⟨y4, s4⟩, u1, u2, u3⟩ : ∃ b : Int32 × zSt, zLp (fun a : Int32 × zSt => bX11_carryOn_86 a.1 a.2) zFU ((0 : Int32), s2) = some b ∧ ((∀ k, k < n → zJ b.2 8 k = chf C D k n) ∧ b.2.1 = τ.1) := by
    refine zl_inv (body := fun a : Int32 × zSt => bX11_carryOn_86 a.1 a.2) (fun j a => a.1 = nI j ∧ (∀ k, k < j → zJ a.2 8 k = chf C D k n) ∧ (∀ k, zJ a.2 9 k = zJ s2 9 k) ∧ a.2.1 = τ.1) n _ ⟨rfl, fun k hk => absurd hk (Nat.not_lt_zero _), fun _ => rfl, o4⟩ (fun j a hj hI => ?_) (fun a hI => ?_) (by omega)
    · obtain ⟨z, s⟩ := a
      obtain ⟨g1, g2, g3, g4⟩ := hI
      have g1 : z = nI j := g1
      subst g1
      have g2 : ∀ k, k < j → zJ s 8 k = chf C D k n := g2
      have g3 : ∀ k, zJ s 9 k = zJ s2 9 k := g3
      refine ⟨(nI j + 1, zwJ s 8 j (chf C D j n)), ?_, nI_1 j, fun k hk => ?_, fun k => ?_, g4⟩
      · show bX11_carryOn_86 (nI j) s = _
        unfold bX11_carryOn_86
        rw [n0 s g4, i_nle hj (by omega), zrJ_n (n := 6) (by decide) (by omega), Option.bind_some, zsJ_n (n := 6) (by decide) (by omega), Option.bind_some, g3, o2 j hj]
      · show zJ (zwJ s 8 j _) 8 k = _
        rw [zJ_wJ]
        by_cases g : k = j
        · rw [if_pos ⟨rfl, g⟩, g]
        · rw [if_neg (fun q => g q.2)]
          exact g2 k (by omega)
      · show zJ (zwJ s 8 j _) 9 k = _
        rw [zJ_ne (by omega)]
        exact g3 k
    · obtain ⟨z, s⟩ := a
      obtain ⟨g1, g2, g3, g4⟩ := hI
      have g1 : z = nI n := g1
      subst g1
      refine ⟨(nI n, s), ?_, g2, g4⟩
      show bX11_carryOn_86 (nI n) s = _
      unfold bX11_carryOn_86
      rw [n0 s g4, i_le (Nat.le_refl _) (by omega)]
  unfold fX11_carryOn
  rw [l1, Option.bind_some, o1, Option.bind_some, u1, Option.bind_some]
  exact ⟨_, rfl, u2, u3⟩
end HANDS2
