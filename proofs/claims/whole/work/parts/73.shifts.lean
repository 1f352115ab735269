/-! SHIFTS: the call -/
section SHIFTS
theorem c_smod : ∀ k, k < 64 → (((nI k).toInt64 &&& 63).toBitVec.smod 64).toNat = k := by decide +kernel
theorem c_shr {n k : Nat} (hn : n < 2 ^ 63) (hk : k < 64) : lN n >>> ((nI k).toInt64 &&& 63) = lN (n / 2 ^ k) := by
  apply Int64.toInt_inj.mp
  have h2 : n / 2 ^ k ≤ n := Nat.div_le_self _ _
  have e : (lN n >>> ((nI k).toInt64 &&& 63)).toInt = (lN n).toInt >>> k := by
    show ((lN n).toBitVec.sshiftRight (((nI k).toInt64 &&& 63).toBitVec.smod 64).toNat).toInt = _
    rw [c_smod k hk, BitVec.toInt_sshiftRight]
    rfl
  rw [e, pk_lT hn, pk_lT (by omega), Int.shiftRight_eq_div_pow]
  rfl
theorem c_and1 {q : Nat} (h : q < 2 ^ 63) : lN q &&& (1 : Int64) = lN (q % 2) := by
  apply Int64.toBitVec_inj.mp
  apply BitVec.eq_of_toNat_eq
  show (BitVec.ofNat 64 q).toNat &&& 1 = (BitVec.ofNat 64 (q % 2)).toNat
  rw [BitVec.toNat_ofNat, BitVec.toNat_ofNat, Nat.mod_eq_of_lt (show q < 2 ^ 64 by omega), Nat.mod_eq_of_lt (show q % 2 < 2 ^ 64 by omega), Nat.and_one_is_mod]
theorem c_cost {σ : zSt} {a b m c : Nat} (ha : a ≤ 9) (hb : b ≤ 9) (hc : c ≤ 9) (h1 : 1 ≤ m) (h2 : m ≤ 40) (h : zJ σ 9 3 = lN (sPv a b m c)) : fX7_cost σ = nI (lct m a b 2 c) := by
  have l := sPv_lt ha hb hc h1 h2
  have e := sPv_pack (a := a) (b := b) (c := c) h1 h2
  have g := lgb_lt m a b 2 c
  have p : 2 ^ m ≤ 2 ^ 40 := Nat.pow_le_pow_right (by decide) h2
  unfold fX7_cost
  rw [h, show (40 : Int32) = nI 40 from rfl, c_shr (by omega) (by decide), lN_i]
  congr 1
  rw [e]
  omega
theorem c_worker {σ : zSt} {a b m c q : Nat} (ha : a ≤ 9) (hb : b ≤ 9) (hc : c ≤ 9) (h1 : 1 ≤ m) (h2 : m ≤ 40) (hq : q < m) (h : zJ σ 9 3 = lN (sPv a b m c)) : fX7_worker σ (nI q) (nI m) = nI (lwk m a b 2 c (q + 1)).2.2 := by
  have l := sPv_lt ha hb hc h1 h2
  have e := sPv_pack (a := a) (b := b) (c := c) h1 h2
  obtain ⟨u, e1, e2⟩ := lgb_bits (m := m) (a := a) (b := b) (l := 2) (c := c) (q + 1) (by omega)
  have g := lgb_lt (m - (q + 1)) (lwk m a b 2 c (q + 1)).1 (lwk m a b 2 c (q + 1)).2.1 (lwk m a b 2 c (q + 1)).2.2 c
  have e2 := e2 (by omega)
  have dl : sPv a b m c / 2 ^ (m - (q + 1)) ≤ sPv a b m c := Nat.div_le_self _ _
  unfold fX7_worker
  rw [h, show (1 : Int32) = nI 1 from rfl, pk_sub h1, pk_sub (by omega), show m - 1 - q = m - (q + 1) by omega, c_shr (by omega) (by omega), c_and1 (by omega), lN_i]
  congr 1
  rw [e, e1, show (2 : Nat) ^ 40 = 2 ^ (40 - (m - (q + 1)) - 1) * 2 * 2 ^ (m - (q + 1)) by rw [← Nat.pow_succ, ← Nat.pow_add]; congr 1; omega]
  generalize lct m a b 2 c = L at *
  generalize lgb (m - (q + 1)) _ _ _ c = G at *
  have p : 0 < 2 ^ (m - (q + 1)) := Nat.two_pow_pos _
  generalize 2 ^ (m - (q + 1)) = P at *
  generalize 2 ^ (40 - (m - (q + 1)) - 1) = Q
  rw [show L * (Q * 2 * P) + (u * P + G) = G + (L * Q * 2 + u) * P by rw [Nat.add_mul]; simp only [Nat.mul_assoc]; omega, Nat.add_mul_div_right _ _ p, Nat.div_eq_of_lt g, Nat.zero_add]
  omega
theorem q_shifts {σ τ : zSt} (h : Inv σ τ) (x y z u w : Int32) : ∃ r σ' τ', fX10_shifts σ x y z u w = some (r, σ') ∧ fX11_shifts τ x y z u w = some (r, τ') ∧ Inv σ' τ' := by
  have h9 := h
  obtain ⟨n, T, c, kd, td, v, pl, sp, t, tb, tw, th, ts, tm, hA, hT, hC, hW, hU, hR, hX⟩ := h
  have hc := hC.1
  unfold fX10_shifts fX11_shifts fX11_within
  rw [z_int hC, z_intM hC, z_int hC, z_intM hC]
  rcases zIn_c x (m := c) (by omega) with e | ⟨i, hi, rfl, e⟩
  · rw [e, i00, i00]
    exact ⟨_, _, _, rfl, rfl, h9⟩
  rw [e, i10, i10]
  rcases zIn_c y (m := c) (by omega) with e | ⟨j, hj, rfl, e⟩
  · rw [e, i00, i00]
    exact ⟨_, _, _, rfl, rfl, h9⟩
  rw [e, i10, i10]
  by_cases e0 : nI i = nI j
  · rw [if_pos e0, if_pos e0]
    exact ⟨_, _, _, rfl, rfl, h9⟩
  rw [if_neg e0, if_neg e0]
  by_cases m0 : z < 1
  · rw [if_pos m0, if_pos m0, i00]
    exact ⟨_, _, _, rfl, rfl, h9⟩
  rw [if_neg m0, if_neg m0]
  by_cases m1 : 40 < z
  · rw [if_pos m1, if_pos m1, i00]
    exact ⟨_, _, _, rfl, rfl, h9⟩
  rw [if_neg m1, if_neg m1, i10]
  by_cases u0 : u < 0
  · rw [if_pos u0, if_pos u0, i00]
    exact ⟨_, _, _, rfl, rfl, h9⟩
  rw [if_neg u0, if_neg u0]
  by_cases u1 : u ≤ 9
  case neg =>
    rw [if_neg u1, if_pos (show (9 : Int32) < u from Int32.not_le.mp u1), i00]
    exact ⟨_, _, _, rfl, rfl, h9⟩
  rw [if_pos u1, if_neg (show ¬ (9 : Int32) < u from Int32.not_lt.mpr u1), i10]
  obtain ⟨d, hd0, rfl⟩ := nI_of u0
  have hd : d ≤ 9 := (nI_leI hd0 (b := 9) (by decide)).mp u1
  obtain ⟨m, hm0, rfl⟩ := nI_of (x := z) (fun w => m0 (Int32.lt_trans w (by decide)))
  have hm1 : 1 ≤ m := by
    rcases Nat.lt_or_ge m 1 with w | w
    · exact absurd (nI_lt (b := 1) w (by decide)) m0
    · exact w
  have hm : m ≤ 40 := by
    rcases Nat.lt_or_ge 40 m with w | w
    · exact absurd (nI_lt (a := 40) w hm0) m1
    · exact w
  by_cases w0 : w < -1
  · rw [if_pos w0, if_pos w0, i00]
    exact ⟨_, _, _, rfl, rfl, h9⟩
  rw [if_neg w0, if_neg w0]
  have wi : w < nI m ↔ ¬ nI m - 1 < w := by
    rw [show (1 : Int32) = nI 1 from rfl, pk_sub hm1, Int32.lt_iff_toInt_lt, Int32.lt_iff_toInt_lt, nI_toInt hm0, nI_toInt (by omega)]
    omega
  by_cases w1 : w < nI m
  case neg =>
    rw [if_neg w1, if_pos (Decidable.not_not.mp (fun q => w1 (wi.mpr q))), i00]
    exact ⟨_, _, _, rfl, rfl, h9⟩
  rw [if_pos w1, if_neg (wi.mp w1), i10]
  obtain ⟨-, ta, -, -, ca, ra⟩ := hC.2.2.2 i hi
  obtain ⟨-, tb', -, -, cb, rb⟩ := hC.2.2.2 j hj
  obtain ⟨σ', p1, p2, p3, p4⟩ := c_plan hR ta tb' hm1 hm hd
  obtain ⟨τ', g1, g2, g3⟩ := m_layLeast (τ := τ) hd hm1 hm
  have hI : Inv σ' τ' := h9.mv (fun c' k hc' => p3 c' k (by unfold zcoC at hc'; omega)) (fun c' k hc' => g2 c' k (by unfold zcoM at hc'; omega)) (by rw [p3 0 10 (by omega), g2 0 0 (by omega)]; exact hX.1) p4
  rw [zrI_n (w := 0) (j := 47) (n := 4) (by decide) (by omega), Option.bind_some, zrI_n (w := 0) (j := 47) (n := 4) (by decide) (by omega), Option.bind_some, ca, cb, p1, Option.bind_some, g1, Option.bind_some, zrI_n (w := 1) (j := 7) (n := 4) (by decide) (by omega), Option.bind_some, zrI_n (w := 1) (j := 7) (n := 4) (by decide) (by omega), Option.bind_some, g2 7 i (by decide), g2 7 j (by decide), ra, rb]
  by_cases w2 : w = -1
  · rw [if_pos w2, if_pos w2, show fX11_spot (0 : Int32) (nI (td i)) (nI (td j)) (2 : Int32) = nI (spt 0 (td i) (td j) 2) from m_spot 0 _ _ 2, zrI_n (n := 12300) (by decide) (by unfold spt; omega), Option.bind_some, g3 0 _ _ 2 (by omega) ta tb' (by decide), c_cost ta tb' hd hm1 hm p2]
    exact ⟨_, _, _, rfl, rfl, hI⟩
  · rw [if_neg w2, if_neg w2]
    have wn : ¬ w < 0 := fun q => by
      rw [Int32.lt_iff_toInt_lt] at q w0
      refine w2 (Int32.toInt_inj.mp ?_)
      have a1 : (-1 : Int32).toInt = -1 := by decide
      have a2 : (0 : Int32).toInt = 0 := by decide
      omega
    obtain ⟨k, hk0, rfl⟩ := nI_of wn
    have hk : k < m := (nI_ltI hk0 hm0).mp w1
    rw [m_walk hd hm hk ta tb' g3, Option.bind_some, c_worker ta tb' hd hm1 hm hk p2]
    exact ⟨_, _, _, rfl, rfl, hI⟩
end SHIFTS
