section CALLS
variable {σ τ : zSt}
theorem pRd.opn {k s a b : Nat} (hab : a + b ≤ 120) (x y : Int32) (hy : zI τ 0 8 = y) (hx : zI σ 2 1 = x) : pRd σ τ k a (a + b) x y (fX5_open σ (12 + k) (nI a) (nI b)) (zwI τ 0 7 (nI (120 * k + a))) a := by
  unfold fX5_open
  rw [nI_add]
  refine ⟨by omega, ?_, ?_, ?_, zI_self, ?_, ?_, zI_self, fun c q hc hd => ?_, fun c q hc => ?_, fun c q => rfl, fun c q hc hd => ?_⟩
  · show zR (zwR σ 2 3 (12 + k)) 2 3 = _
    rw [zR_self]
  · rw [zI_ne (by omega), zI_ne (by omega), zI_self]
  · rw [zI_ne (by omega), zI_self]
  · rw [zI_ne (by omega), zI_ne (by omega), zI_ne (by omega)]; exact hx
  · rw [zI_ne (by omega)]; exact hy
  · rw [zI_ne (by omega), zI_ne (by omega), zI_ne (by omega)]; rfl
  · show zR (zwR σ 2 3 (12 + k)) c q = _
    rw [zR_ne hc]
  · rw [zI_ne (by omega)]
/-- where a text is refused nothing that counts has changed -/
theorem Inv.read {k i E : Nat} {x y : Int32} {ρ υ : zSt} {p : Nat} (h : Inv σ τ) (hr : pRd σ τ k i E x y ρ υ p) : Inv ρ υ := by
  have hX : zI σ 0 10 = zI τ 0 0 := by
    obtain ⟨n, T, c, kd, td, v, pl, sp, t, tb, tw, th, ts, tm, hA, hT, hC, hW, hU, hR, hX⟩ := h
    exact hX.1
  have hR : pR σ := by
    obtain ⟨n, T, c, kd, td, v, pl, sp, t, tb, tw, th, ts, tm, hA, hT, hC, hW, hU, hR, hX⟩ := h
    exact hR
  obtain ⟨h1, h2, h3, h4, h5, h6, h7, h8, h9, h10, h11, h12⟩ := hr
  refine h.mv (fun c q hc => h9 c q (by unfold zcoC at hc; omega) (by unfold zcoC at hc; omega)) (fun c q hc => h12 c q (by unfold zcoM at hc; omega) (by unfold zcoM at hc; omega)) ?_ (hR.mv (h10 _ _ (by omega)) (h10 _ _ (by omega)) (h10 _ _ (by omega)) (h10 _ _ (by omega)) (h9 _ _ (by omega) (by omega)) (h11 _ _))
  rw [h9 _ _ (by omega) (by omega), h12 _ _ (by omega) (by omega)]
  exact hX
theorem r_place {k i E : Nat} {x y : Int32} {ρ υ : zSt} {p : Nat} (hr : pRd σ τ k i E x y ρ υ p) : (-100 : Int32) - fX5_place ρ = (-100 : Int32) - (zI υ 0 7 - nI (120 * k + i)) := by
  unfold fX5_place
  rw [hr.2.2.2.1, hr.2.2.1, hr.at7]
  congr 1
  rw [← nI_add, ← nI_add]
  generalize nI p = P
  generalize nI i = I
  generalize nI (120 * k) = K
  apply Int32.toBitVec_inj.mp
  simp only [Int32.toBitVec_sub, Int32.toBitVec_add]
  bv_omega
theorem rows_of {n : Nat} {ρ υ : zSt} {S : Nat → Prop} (h : ∀ r, S r → pDg n ρ υ r) : ∃ D : Nat → Nat → Nat, ∀ r, S r → rowOK n (D r) ∧ ∀ b, b < n → zI ρ (19 + r) b = nI (D r b) ∧ zI υ 5 (6 * r + b) = nI (D r b) := by
  have key : ∀ r, ∃ d : Nat → Nat, S r → rowOK n d ∧ ∀ b, b < n → zI ρ (19 + r) b = nI (d b) ∧ zI υ 5 (6 * r + b) = nI (d b) := fun r => by
    by_cases q : S r
    · obtain ⟨d, h1⟩ := h r q
      exact ⟨d, fun _ => h1⟩
    · exact ⟨fun _ => 0, fun z => absurd z q⟩
  exact ⟨fun r => Classical.choose (key r), fun r hr => Classical.choose_spec (key r) hr⟩
end CALLS
