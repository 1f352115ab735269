theorem q_cell {σ τ : zSt} (h : Inv σ τ) (x y z : Int32) : ∃ r σ' τ', fX10_cell σ x y z = some (r, σ') ∧ fX11_cell τ x y z = some (r, τ') ∧ Inv σ' τ' := by
  have h0 := h.flt (x := 0) (y := 0) rfl
  unfold fX10_cell fX11_cell fX11_lost
  generalize (-9223372036854775808 : Int64) = lost
  rw [z_sheetM, z_sortM]
  rcases zIn_c x (m := 4) (by decide) with e | ⟨k, hk, rfl, e⟩
  · have e2 : fX10_refuseRow σ x z = (-1, zwI σ 0 10 0) := by unfold fX10_refuseRow; rw [z_has6, e, i00]
    rw [e2, e, i00, if_neg (show ¬ ((-1 : Int32) = 0) by decide)]
    exact ⟨_, _, _, rfl, rfl, h0⟩
  rcases zIn_c z (m := 3) (by decide) with e3 | ⟨s, hs, rfl, e3⟩
  · have e2 : fX10_refuseRow σ (nI k) z = (-2, zwI σ 0 10 0) := by unfold fX10_refuseRow; rw [z_has6, z_sort, e, e3, i00, i10]
    rw [e2, e, e3, i10, i00, if_neg (show ¬ ((-2 : Int32) = 0) by decide)]
    exact ⟨_, _, _, rfl, rfl, h0⟩
  rw [refuse0 σ hk hs, e, e3, i10, i10]
  simp only [↓reduceIte]
  have c0 := comeTo0 σ
  generalize zwI σ 0 10 0 = σ0 at h0 c0 ⊢
  generalize zwI τ 0 0 0 = τ0 at h0 ⊢
  have hA : pA σ0 τ0 := by
    obtain ⟨n0, T, c, kd, td, v, pl, sp, t, tb, tw, th, ts, tm, hA, -⟩ := h0
    exact hA
  have m1 : zrI 1 τ0 1 (nI k) = some (zI τ0 1 k) := zrI_n (n := 4) (by decide) hk
  have m2 : zrI 1 τ0 2 (nI k) = some (zI τ0 2 k) := zrI_n (n := 4) (by decide) hk
  have e17 : zrI 0 σ0 17 (nI k) = some (zI σ0 17 k) := zrI_n (n := 4) (by decide) hk
  have e16 : zrI 0 σ0 16 (nI k) = some (zI σ0 16 k) := zrI_n (n := 4) (by decide) hk
  have n1 := comeToN σ0 (r := 1) (by decide) (by decide)
  have n2 := comeToN σ0 (r := 2) (by decide) (by decide)
  have n3 := comeToN σ0 (r := 3) (by decide) (by decide)
  unfold fX6_isOtherSort
  simp only [m1, m2, e17, e16, Option.bind_some]
  rcases q_faultCell hA hk y with ⟨h1, h2, h3⟩ | ⟨L, s', hL, hs', h1, h2, h3, h4, h5⟩
  · rw [h1, h2, h3, if_pos rfl, if_pos rfl, if_pos rfl]
    simp only [Option.bind_some, ↓reduceIte]
    rw [show (1 : Int32) = nI 1 from rfl, n1.1, if_neg n1.2]
    exact ⟨_, _, _, rfl, rfl, h0.flt rfl⟩
  · rw [h1, h2, h3, h4, if_neg (nI_m1 (by omega)), if_neg (nI_m9 (by omega))]
    by_cases e5 : nI s' = nI s
    · have n9 := nI_m9 (a := s') (by omega)
      rw [if_pos e5, if_pos e5, if_neg n9]
      rw [Option.bind_some, i00]
      rcases h5 with ⟨g1, g2⟩ | ⟨a, ha, rfl, g1, g2⟩
      · rw [g1, g2, i00, Option.bind_some]
        rw [show (3 : Int32) = nI 3 from rfl, n3.1, if_neg n3.2]
        exact ⟨_, _, _, rfl, rfl, h0.flt rfl⟩
      · rw [g1, g2, i10, Option.bind_some, c0, i00, zrA_n (n := 4) (by decide) hk, Option.bind_some]
        rw [show 11 + 1 + k = 12 + k by omega, show (120 : Int32) = nI 120 from rfl, pk_mul, nI_add, zrI_n (zkRow k hk) (by omega), zrI_n (n := 480) (by decide) (by omega)]
        rw [Option.bind_some, Option.bind_some, (hA k hk).2 a (by omega)]
        exact ⟨_, _, _, rfl, rfl, h0⟩
    · rw [if_neg e5, if_neg e5]
      rw [Option.bind_some, i10, show (2 : Int32) = nI 2 from rfl, n2.1, if_neg n2.2]
      exact ⟨_, _, _, rfl, rfl, h0.flt rfl⟩
