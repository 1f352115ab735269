section TONGUES
theorem q_tongues {σ τ : zSt} (h : Inv σ τ) (x y z u : Int32) : ∃ r σ' τ', fX10_tongues σ x y z u = some (r, σ') ∧ fX11_tongues τ x y z u = some (r, τ') ∧ Inv σ' τ' := by
  have h0 := h.flt (x := 0) (y := 0) rfl
  have c0 := comeTo0 σ
  unfold fX10_tongues fX11_tongues
  rw [z_sheetM, z_sortM]
  rcases zIn_c x (m := 4) (by decide) with e | ⟨k, hk, rfl, e⟩
  · have e2 : fX10_refuseRow σ x y = (-1, zwI σ 0 10 0) := by unfold fX10_refuseRow; rw [z_has6, e, i00]
    rw [e2, e, i00, if_neg (show ¬ ((-1 : Int32) = 0) by decide)]
    exact ⟨_, _, _, rfl, rfl, h0⟩
  rcases zIn_c y (m := 3) (by decide) with e3 | ⟨s, hs, rfl, e3⟩
  · have e2 : fX10_refuseRow σ (nI k) y = (-2, zwI σ 0 10 0) := by unfold fX10_refuseRow; rw [z_has6, z_sort, e, e3, i00, i10]
    rw [e2, e, e3, i10, i00, if_neg (show ¬ ((-2 : Int32) = 0) by decide)]
    exact ⟨_, _, _, rfl, rfl, h0⟩
  rw [refuse0 σ hk hs, e, e3, i10, i10]
  generalize zwI σ 0 10 0 = σ0 at h0 c0 ⊢
  generalize zwI τ 0 0 0 = τ0 at h0 ⊢
  rw [p00]
  dsimp only
  have h9 := h0
  obtain ⟨n, T, c, kd, td, v, pl, sp, t, tb, tw, th, ts, tm, hA, hT, hC, hW, hU, hR, hX⟩ := h0
  obtain ⟨r, hr, f1, f2, f3⟩ := q_against hA hk (nI s) z u
  rw [f1, f2, Option.bind_some, Option.bind_some]
  by_cases r0 : r = 0
  case neg =>
    obtain ⟨g1, g2⟩ := comeToN σ0 (r := r) (by omega) hr
    rw [if_neg (show ¬ nI r = 0 from nI_ne0 (by omega) (by omega)), g1, if_neg g2]
    exact ⟨_, _, _, rfl, rfl, h9.flt rfl⟩
  subst r0
  obtain ⟨i, m, L, rfl, rfl, hL1, hL2, -, -⟩ := f3 rfl
  rw [show nI 0 = (0 : Int32) from rfl, c0, if_pos (show (0 : Int32) = 0 from rfl), if_pos (show ((0 : Int32), σ0).1 = 0 from rfl)]
  dsimp only
  have hcell := (hA k hk).2
  rw [zrA_n (n := 4) (by decide) hk, Option.bind_some, show 11 + 1 + k = 12 + k by omega, show (120 : Int32) = nI 120 from rfl, pk_mul, nI_add, nI_add, show 120 * k + i + m = 120 * k + (i + m) from Nat.add_assoc _ _ _]
  have hrd := pRd.opn (σ := σ0) (τ := τ0) (k := k) (s := s) (a := i) (b := m) (by omega) _ _ rfl rfl
  generalize fX5_open σ0 (12 + k) (nI i) (nI m) = ρ0 at hrd ⊢
  generalize zwI τ0 0 7 (nI (120 * k + i)) = υ0 at hrd ⊢
  rcases r_tongues hrd hk (by omega) hcell with ⟨n', ρ, υ, p, hn2, hn6, t1, t2, hq, hd⟩ | ⟨ρ, υ, p, x', y', t1, t2, hq⟩
  case inr =>
    rw [t1, t2, Option.bind_some, Option.bind_some, p00, p00]
    dsimp only
    rw [r_place hq]
    exact ⟨_, _, _, rfl, rfl, h9.read hq⟩
  rw [t1, t2, Option.bind_some, Option.bind_some, p10, p10]
  dsimp only
  obtain ⟨D, hD⟩ := rows_of (S := fun r => ∃ w a, w < 2 ∧ a < n' ∧ r = 6 * w + a) (n := n') (ρ := ρ) (υ := υ) (fun r ⟨w, a, hw, ha, e⟩ => e ▸ hd w a hw ha)
  have hD : ∀ w a, w < 2 → a < n' → rowOK n' (D (6 * w + a)) ∧ ∀ b, b < n' → zI ρ (19 + (6 * w + a)) b = nI (D (6 * w + a) b) ∧ zI υ 5 (6 * (6 * w + a) + b) = nI (D (6 * w + a) b) := fun w a hw ha => hD _ ⟨w, a, hw, ha, rfl⟩
  obtain ⟨s1, g1, g2, g3, g4, g5⟩ := c_take (σ := ρ) (n := n') (D := D) (by omega) hn6 (fun w a hw ha => ⟨(hD w a hw ha).1, fun b hb => ((hD w a hw ha).2 b hb).1⟩)
  rw [hq.2.2.2.2.2.1, g1, Option.bind_some, hq.2.2.2.2.2.2.1]
  obtain ⟨⟨b1, s2⟩, m1, m2⟩ := m_copy72 (υ := zwI υ 0 5 (nI n'))
  have m2 : ∀ c q, zI s2 c q = if c = 4 ∧ q < 72 then zI (zwI υ 0 5 (nI n')) 5 q else zI (zwI υ 0 5 (nI n')) c q := m2
  rw [m1, Option.bind_some]
  dsimp only
  unfold fX4_clear fX9_leave
  have q9 := hq.2.2.2.2.2.2.2.2.1
  have q10 := hq.2.2.2.2.2.2.2.2.2.1
  have q11 := hq.2.2.2.2.2.2.2.2.2.2.1
  have q12 := hq.2.2.2.2.2.2.2.2.2.2.2
  have sC : ∀ c q, ¬ (33 ≤ c ∧ c ≤ 45) → ¬ c = 3 → ¬ c = 2 → ¬ (19 ≤ c ∧ c ≤ 30) → ¬ c = 5 → ¬ c = 8 → zI (zwI (zwI (zwI s1 5 1 0) 5 2 0) 8 1 0) c q = zI σ0 c q := fun c q a1 a2 a3 a4 a5 a6 => by
    rw [zI_ne (by omega), zI_ne (by omega), zI_ne (by omega), g4 c q a1 (by omega)]
    exact q9 c q a3 a4
  have sM : ∀ c q, ¬ c = 4 → ¬ c = 5 → ¬ (c = 0 ∧ (q = 5 ∨ 7 ≤ q ∧ q ≤ 9 ∨ q = 16 ∨ q = 17 ∨ q = 19)) → zI (zwI (zwI (zwI s2 0 16 0) 0 17 0) 0 19 0) c q = zI τ0 c q := fun c q a1 a2 a3 => by
    rw [zI_ne (by omega), zI_ne (by omega), zI_ne (by omega), m2, if_neg (by omega), zI_ne (by omega)]
    exact q12 c q a2 (by omega)
  have sJ : ∀ c q, zJ (zwI (zwI (zwI s1 5 1 0) 5 2 0) 8 1 0) c q = zJ σ0 c q := fun c q => by
    rw [← q11 c q]
    show zJ s1 c q = zJ ρ c q
    unfold zJ
    rw [g5]
  have sR : ∀ c q, ¬ c = 2 → zR (zwI (zwI (zwI s1 5 1 0) 5 2 0) 8 1 0) c q = zR σ0 c q := fun c q hc => by
    rw [← q10 c q (by omega)]
    show zR s1 c q = zR ρ c q
    unfold zR
    rw [g5]
  have w1 : zI (zwI (zwI (zwI s1 5 1 0) 5 2 0) 8 1 0) 3 0 = nI n' := by
    rw [zI_ne (by omega), zI_ne (by omega), zI_ne (by omega)]; exact g2
  have w2 : zI (zwI (zwI (zwI s2 0 16 0) 0 17 0) 0 19 0) 0 5 = nI n' := by
    rw [zI_ne (by omega), zI_ne (by omega), zI_ne (by omega), m2, if_neg (by omega), zI_self]
  refine ⟨nI n', _, _, by rw [w1], by rw [w2], n', fun w a => D (6 * w + a), c, kd, td, 0, 0, fun _ _ => 0, 0, tb, tw, th, ts, tm, ?_, ?_, ?_, ?_, ?_, ?_, ?_⟩
  · exact hA.mv (fun c q h1 h2 => sC c q (by omega) (by omega) (by omega) (by omega) (by omega) (by omega)) (fun c q h1 h2 => sM c q (by omega) (by omega) (by omega))
  · refine ⟨Or.inr hn2, hn6, w1, w2, fun w hw a ha => ?_⟩
    obtain ⟨k1, k2⟩ := hD w a hw ha
    obtain ⟨j1, j2, j3⟩ := g3 w a hw ha
    have sT : ∀ c q, 33 ≤ c → zI (zwI (zwI (zwI s1 5 1 0) 5 2 0) 8 1 0) c q = zI s1 c q := fun c q hc => by rw [zI_ne (by omega), zI_ne (by omega), zI_ne (by omega)]
    refine ⟨k1, fun b hb => ⟨?_, ?_⟩, ?_, ?_⟩
    · rw [sT _ _ (by omega)]; exact j1 b hb
    · rw [zI_ne (by omega), zI_ne (by omega), zI_ne (by omega), m2, if_pos (by omega), zI_ne (by omega), show 36 * w + 6 * a + b = 6 * (6 * w + a) + b by omega]
      exact (k2 b hb).2
    · rw [sT _ _ (by omega)]; exact j2
    · rw [sT _ _ (by omega)]; exact j3
  · exact hC.mv (sC _ _ (by omega) (by omega) (by omega) (by omega) (by omega) (by omega)) (fun c q h1 h2 => sC c q (by omega) (by omega) (by omega) (by omega) (by omega) (by omega)) (sM _ _ (by omega) (by omega) (by omega)) (fun c q h1 h2 => sM c q (by omega) (by omega) (by omega))
  · refine ⟨by omega, by omega, ?_, ?_, ?_, ?_, fun q => absurd q (by decide)⟩
    · rw [zI_ne (by omega), zI_ne (by omega), zI_self]; rfl
    · rw [zI_ne (by omega), zI_ne (by omega), zI_self]; rfl
    · rw [zI_ne (by omega), zI_self]; rfl
    · rw [zI_ne (by omega), zI_self]; rfl
  · exact ⟨by omega, zI_self, zI_self, fun q => absurd q (Nat.lt_irrefl _), fun u hu => absurd hu (Nat.not_lt_zero _)⟩
  · exact hR.mv (sR _ _ (by omega)) (sR _ _ (by omega)) (sR _ _ (by omega)) (sR _ _ (by omega)) (sC _ _ (by omega) (by omega) (by omega) (by omega) (by omega) (by omega)) (sJ _ _)
  · refine ⟨?_, ?_⟩
    · rw [sC _ _ (by omega) (by omega) (by omega) (by omega) (by omega) (by omega), sM _ _ (by omega) (by omega) (by omega)]; exact hX.1
    · rw [sC _ _ (by omega) (by omega) (by omega) (by omega) (by omega) (by omega), sM _ _ (by omega) (by omega) (by omega)]; exact hX.2
theorem q_witness {σ τ : zSt} (h : Inv σ τ) (x y z u : Int32) : ∃ r σ' τ', fX10_witness σ x y z u = some (r, σ') ∧ fX11_witness τ x y z u = some (r, τ') ∧ Inv σ' τ' := by
  have h0 := h.flt (x := 0) (y := 0) rfl
  have c0 := comeTo0 σ
  unfold fX10_witness fX11_witness
  rw [z_sheetM, z_sortM]
  rcases zIn_c x (m := 4) (by decide) with e | ⟨k, hk, rfl, e⟩
  · have e2 : fX10_refuseRow σ x y = (-1, zwI σ 0 10 0) := by unfold fX10_refuseRow; rw [z_has6, e, i00]
    rw [e2, e, i00, if_neg (show ¬ ((-1 : Int32) = 0) by decide)]
    exact ⟨_, _, _, rfl, rfl, h0⟩
  rcases zIn_c y (m := 3) (by decide) with e3 | ⟨s, hs, rfl, e3⟩
  · have e2 : fX10_refuseRow σ (nI k) y = (-2, zwI σ 0 10 0) := by unfold fX10_refuseRow; rw [z_has6, z_sort, e, e3, i00, i10]
    rw [e2, e, e3, i10, i00, if_neg (show ¬ ((-2 : Int32) = 0) by decide)]
    exact ⟨_, _, _, rfl, rfl, h0⟩
  rw [refuse0 σ hk hs, e, e3, i10, i10]
  generalize zwI σ 0 10 0 = σ0 at h0 c0 ⊢
  generalize zwI τ 0 0 0 = τ0 at h0 ⊢
  rw [p00]
  dsimp only
  have h9 := h0
  obtain ⟨n, T, c, kd, td, v, pl, sp, t, tb, tw, th, ts, tm, hA, hT, hC, hW, hU, hR, hX⟩ := h0
  have h6 := hT.2.1
  rw [hT.2.2.1, hT.2.2.2.1]
  by_cases n0 : n = 0
  · rw [n0, if_pos (show nI 0 = (0 : Int32) from rfl), if_pos (show nI 0 = (0 : Int32) from rfl)]
    exact ⟨_, _, _, rfl, rfl, h9⟩
  have hn2 : 2 ≤ n := hT.1.resolve_left n0
  rw [if_neg (nI_ne0 (by omega) (by omega)), if_neg (nI_ne0 (by omega) (by omega))]
  obtain ⟨r, hr, f1, f2, f3⟩ := q_against hA hk (nI s) z u
  rw [f1, f2, Option.bind_some, Option.bind_some]
  by_cases r0 : r = 0
  case neg =>
    obtain ⟨g1, g2⟩ := comeToN σ0 (r := r) (by omega) hr
    rw [if_neg (show ¬ nI r = 0 from nI_ne0 (by omega) (by omega)), g1, if_neg g2]
    exact ⟨_, _, _, rfl, rfl, h9.flt rfl⟩
  subst r0
  obtain ⟨i, m, L, rfl, rfl, hL1, hL2, -, -⟩ := f3 rfl
  rw [show nI 0 = (0 : Int32) from rfl, c0, if_pos (show (0 : Int32) = 0 from rfl), if_pos (show ((0 : Int32), σ0).1 = 0 from rfl)]
  dsimp only
  have hcell := (hA k hk).2
  rw [zrA_n (n := 4) (by decide) hk, Option.bind_some, show 11 + 1 + k = 12 + k by omega, show (120 : Int32) = nI 120 from rfl, pk_mul, nI_add, nI_add, show 120 * k + i + m = 120 * k + (i + m) from Nat.add_assoc _ _ _]
  have hrd := pRd.opn (σ := σ0) (τ := τ0) (k := k) (s := s) (a := i) (b := m) (by omega) _ _ rfl rfl
  generalize fX5_open σ0 (12 + k) (nI i) (nI m) = ρ0 at hrd ⊢
  generalize zwI τ0 0 7 (nI (120 * k + i)) = υ0 at hrd ⊢
  rw [show zI ρ0 3 0 = nI n from (hrd.2.2.2.2.2.2.2.2.1 3 0 (by omega) (by omega)).trans hT.2.2.1]
  rcases r_witness hrd hk (by omega) hcell h6 hT.2.2.2.1 with ⟨pl', ρ, υ, p, hpl, t1, t2, k1, k2, hq, hd⟩ | ⟨ρ, υ, p, x', y', t1, t2, hq⟩
  case inr =>
    rw [t1, t2, Option.bind_some, Option.bind_some, p00, p00]
    dsimp only
    rw [r_place hq]
    exact ⟨_, _, _, rfl, rfl, h9.read hq⟩
  rw [t1, t2, Option.bind_some, Option.bind_some, p10, p10]
  dsimp only
  have q9 := hq.2.2.2.2.2.2.2.2.1
  have q10 := hq.2.2.2.2.2.2.2.2.2.1
  have q11 := hq.2.2.2.2.2.2.2.2.2.2.1
  have q12 := hq.2.2.2.2.2.2.2.2.2.2.2
  obtain ⟨D, hD⟩ := rows_of (S := fun r => r < n) (n := n) (ρ := ρ) (υ := υ) (fun r hr => hd r hr)
  obtain ⟨s1, g1, g2, g3, g4, g5, g6⟩ := c_takeW (σ := ρ) (n := n) (pl := pl') (D := D) hn2 h6 hpl (fun a ha => ⟨(hD a ha).1, fun b hb => ((hD a ha).2 b hb).1⟩)
  rw [show zI ρ 3 0 = nI n from (q9 3 0 (by omega) (by omega)).trans hT.2.2.1, k1, g1, Option.bind_some, zI_ne (c := 0) (k := 16) (c' := 0) (k' := 9) (by omega), k2]
  obtain ⟨⟨b1, s2⟩, m1, m2⟩ := m_copy36 (υ := zwI (zwI (zwI υ 0 16 1) 0 17 (nI pl')) 0 19 0)
  have m2 : ∀ c q, zI s2 c q = if c = 10 ∧ q < 36 then zI (zwI (zwI (zwI υ 0 16 1) 0 17 (nI pl')) 0 19 0) 5 q else zI (zwI (zwI (zwI υ 0 16 1) 0 17 (nI pl')) 0 19 0) c q := m2
  rw [m1, Option.bind_some]
  dsimp only
  unfold fX4_clear
  have sC : ∀ c q, ¬ (49 ≤ c ∧ c ≤ 54) → ¬ c = 2 → ¬ (19 ≤ c ∧ c ≤ 30) → ¬ c = 5 → ¬ c = 8 → zI (zwI s1 8 1 0) c q = zI σ0 c q := fun c q a1 a2 a3 a4 a5 => by
    rw [zI_ne (by omega), g5 c q a1 (by omega)]
    exact q9 c q a2 a3
  have sM : ∀ c q, ¬ c = 10 → ¬ c = 5 → ¬ (c = 0 ∧ (7 ≤ q ∧ q ≤ 9 ∨ q = 16 ∨ q = 17 ∨ q = 19)) → zI s2 c q = zI τ0 c q := fun c q a1 a2 a3 => by
    rw [m2, if_neg (by omega), zI_ne (by omega), zI_ne (by omega), zI_ne (by omega)]
    exact q12 c q a2 (by omega)
  have sJ : ∀ c q, zJ (zwI s1 8 1 0) c q = zJ σ0 c q := fun c q => by
    rw [← q11 c q]
    show zJ s1 c q = zJ ρ c q
    unfold zJ
    rw [g6]
  have sR : ∀ c q, ¬ c = 2 → zR (zwI s1 8 1 0) c q = zR σ0 c q := fun c q hc => by
    rw [← q10 c q (by omega)]
    show zR s1 c q = zR ρ c q
    unfold zR
    rw [g6]
  refine ⟨1, _, _, rfl, rfl, n, T, c, kd, td, 1, pl', D, 0, tb, tw, th, ts, tm, ?_, ?_, ?_, ?_, ?_, ?_, ?_⟩
  · exact hA.mv (fun c q h1 h2 => sC c q (by omega) (by omega) (by omega) (by omega) (by omega)) (fun c q h1 h2 => sM c q (by omega) (by omega) (by omega))
  · exact hT.mv (sC _ _ (by omega) (by omega) (by omega) (by omega) (by omega)) (fun c q h1 h2 => sC c q (by omega) (by omega) (by omega) (by omega) (by omega)) (sM _ _ (by omega) (by omega) (by omega)) (fun q => sM _ _ (by omega) (by omega) (by omega))
  · exact hC.mv (sC _ _ (by omega) (by omega) (by omega) (by omega) (by omega)) (fun c q h1 h2 => sC c q (by omega) (by omega) (by omega) (by omega) (by omega)) (sM _ _ (by omega) (by omega) (by omega)) (fun c q h1 h2 => sM c q (by omega) (by omega) (by omega))
  · refine ⟨by omega, hpl, ?_, ?_, ?_, ?_, fun _ => ⟨hn2, fun a ha => ?_⟩⟩
    · rw [zI_ne (by omega), g2]; rfl
    · rw [m2, if_neg (by omega), zI_ne (by omega), zI_ne (by omega), zI_self]; rfl
    · rw [zI_ne (by omega)]; exact g3
    · rw [m2, if_neg (by omega), zI_ne (by omega), zI_self]
    · obtain ⟨o1, o2⟩ := hD a ha
      obtain ⟨j1, j2⟩ := g4 a ha
      refine ⟨o1, fun b hb => ⟨?_, ?_⟩, ?_⟩
      · rw [m2, if_pos (by omega), zI_ne (by omega), zI_ne (by omega), zI_ne (by omega)]
        exact (o2 b hb).2
      · rw [zI_ne (by omega)]; exact j1 b hb
      · rw [zI_ne (by omega)]; exact j2
  · exact ⟨by omega, zI_self, by rw [m2, if_neg (by omega), zI_self]; rfl, fun q => absurd q (Nat.lt_irrefl _), fun u hu => absurd hu (Nat.not_lt_zero _)⟩
  · exact hR.mv (sR _ _ (by omega)) (sR _ _ (by omega)) (sR _ _ (by omega)) (sR _ _ (by omega)) (sC _ _ (by omega) (by omega) (by omega) (by omega) (by omega)) (sJ _ _)
  · refine ⟨?_, ?_⟩
    · rw [sC _ _ (by omega) (by omega) (by omega) (by omega) (by omega), sM _ _ (by omega) (by omega) (by omega)]; exact hX.1
    · rw [sC _ _ (by omega) (by omega) (by omega) (by omega) (by omega), sM _ _ (by omega) (by omega) (by omega)]; exact hX.2
end TONGUES
