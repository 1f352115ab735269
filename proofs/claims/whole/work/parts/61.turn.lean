/-! TRUTH: being tired takes the same share of all words -/
section TRUTH
variable {n : Nat} {T : Nat → Nat → Nat → Nat} {pl : Nat} {sp : Nat → Nat → Nat}
def tmu (n : Nat) (T : Nat → Nat → Nat → Nat) (pl : Nat) (sp : Nat → Nat → Nat) (k a h : Nat) (P Q : Nat → Bool) : Nat := sm n (fun r => if P r then sm n (fun q => if Q q then pln n k (T 0 a) r * ans pl sp r q * pln n k (T 1 q) h else 0) else 0)
theorem tms_tmu {k t a h : Nat} {P Q : Nat → Bool} : tms n T pl sp k t a h P Q = tmu n T pl sp k a h P Q * ((12 - t) * (12 - t)) := by
  unfold tms tmu
  rw [← sm_mul]
  refine sm_congr (fun r hr => ?_)
  by_cases p : P r = true
  · rw [if_pos p, if_pos p, ← sm_mul]
    refine sm_congr (fun q hq => ?_)
    by_cases p2 : Q q = true
    · rw [if_pos p2, if_pos p2]
      unfold crr
      generalize pln n k (T 0 a) r = x
      generalize ans pl sp r q = y
      generalize pln n k (T 1 q) h = z
      generalize 12 - t = w
      simp only [Nat.mul_assoc, Nat.mul_comm, Nat.mul_left_comm]
    · rw [if_neg p2, if_neg p2, Nat.zero_mul]
  · rw [if_neg p, if_neg p, Nat.zero_mul]
theorem tru_t {k t a h : Nat} (ht : t ≤ 9) : 1000 * tms n T pl sp k t a h (fun _ => true) (fun q => amx n (T 1 q) == h) / tms n T pl sp k t a h (fun _ => true) (fun _ => true) = tru n T pl sp k a h := by
  unfold tru
  rw [tms_tmu (t := t), tms_tmu (t := t), tms_tmu (t := 0), tms_tmu (t := 0)]
  have h1 : 0 < (12 - t) * (12 - t) := Nat.mul_pos (by omega) (by omega)
  have gen : ∀ U V K : Nat, 0 < K → 1000 * (U * K) / (V * K) = 1000 * U / V := fun U V K hK => by rw [← Nat.mul_assoc, Nat.mul_div_mul_right _ _ hK]
  rw [gen _ _ _ h1, gen _ _ _ (by decide)]
theorem tms_mono {k t a h : Nat} {Q : Nat → Bool} : tms n T pl sp k t a h (fun _ => true) Q ≤ tms n T pl sp k t a h (fun _ => true) (fun _ => true) := by
  unfold tms
  refine sm_le (fun r hr => ?_)
  rw [if_pos rfl, if_pos rfl]
  refine sm_le (fun q hq => ?_)
  rw [if_pos rfl]
  split
  · exact Nat.le_refl _
  · exact Nat.zero_le _
theorem tms_le {k t a h : Nat} (ha : sm n (T 0 a) ≤ 12) (h1 : ∀ q, q < n → sm n (T 1 q) ≤ 12) (hs : ∀ r, r < n → sm n (sp r) ≤ 12) (hp : pl ≤ 9) (hh : h < n) : tms n T pl sp k t a h (fun _ => true) (fun _ => true) ≤ 2985984 := by
  have e : tms n T pl sp k t a h (fun _ => true) (fun _ => true) ≤ sm n (fun r => crr n k t (T 0 a) r * 20736) := by
    unfold tms
    refine sm_le (fun r hr => ?_)
    rw [if_pos rfl]
    have e2 : sm n (fun q => if true = true then crr n k t (T 0 a) r * ans pl sp r q * crr n k t (T 1 q) h else 0) ≤ sm n (fun q => crr n k t (T 0 a) r * 144 * ans pl sp r q) := by
      refine sm_le (fun q hq => ?_)
      rw [if_pos rfl]
      have := crr_le (k := k) (t := t) hh (h1 q hq)
      calc crr n k t (T 0 a) r * ans pl sp r q * crr n k t (T 1 q) h ≤ crr n k t (T 0 a) r * ans pl sp r q * 144 := Nat.mul_le_mul_left _ this
        _ = crr n k t (T 0 a) r * 144 * ans pl sp r q := by rw [Nat.mul_assoc, Nat.mul_comm (ans pl sp r q), ← Nat.mul_assoc]
    refine Nat.le_trans e2 ?_
    rw [sm_mull]
    have := ans_sum (n := n) (r := r) (sp := sp) (by omega) (hs r hr) hp
    calc crr n k t (T 0 a) r * 144 * sm n (ans pl sp r) ≤ crr n k t (T 0 a) r * 144 * 144 := Nat.mul_le_mul_left _ this
      _ = crr n k t (T 0 a) r * 20736 := by rw [Nat.mul_assoc]
  refine Nat.le_trans e ?_
  rw [sm_mul]
  have := crr_sum (n := n) (k := k) (t := t) (by omega) ha
  omega
theorem tru_le {k a h : Nat} : tru n T pl sp k a h ≤ 1000 := by
  unfold tru
  generalize hA : tms n T pl sp k 0 a h (fun _ => true) (fun _ => true) = A
  have h1 : tms n T pl sp k 0 a h (fun _ => true) (fun q => amx n (T 1 q) == h) ≤ A := by rw [← hA]; exact tms_mono
  by_cases e : A = 0
  · rw [e, Nat.div_zero]
    omega
  · exact Nat.div_le_of_le_mul (by rw [Nat.mul_comm]; exact Nat.mul_le_mul_right _ h1)
/-- thousandths, as both systems reckon them -/
theorem zth {S A : Nat} (hA : A < 2 ^ 31) (hS : S ≤ A) (h0 : ¬ nI A = 0) : zdl ((1000 : Int64) * (nI S).toInt64) (nI A).toInt64 = some (lN (1000 * S / A)) := by
  have hA0 : 0 < A := Nat.pos_of_ne_zero (fun e => h0 (by rw [e]; rfl))
  unfold zdl
  rw [if_neg (z_l0 h0), nI_l (by omega), nI_l hA, show (1000 : Int64) = lN 1000 from rfl, lN_mul, pk_lDiv (by omega) hA0 (by omega)]
end TRUTH
theorem pT.sums {σ τ : zSt} {n : Nat} {T : Nat → Nat → Nat → Nat} (hT : pT σ τ n T) {w a : Nat} (hw : w < 2) (ha : a < n) : sm n (T w a) ≤ 12 := (hT.2.2.2.2 w hw a ha).1.2.2
theorem tms_ok {σ τ : zSt} {n : Nat} {T : Nat → Nat → Nat → Nat} {pl : Nat} {sp : Nat → Nat → Nat} (hT : pT σ τ n T) (hW : pW σ τ n 1 pl sp) {k t a h : Nat} (ha : a < n) (hh : h < n) : tms n T pl sp k t a h (fun _ => true) (fun _ => true) ≤ 2985984 := tms_le (hT.sums (by decide) ha) (fun q hq => hT.sums (by decide) hq) (fun r hr => ((hW.2.2.2.2.2.2 rfl).2 r hr).1.2.2) hW.2.1 hh
theorem c_truth {σ τ : zSt} {n : Nat} {T : Nat → Nat → Nat → Nat} {pl : Nat} {sp : Nat → Nat → Nat} {k t : Nat} (hT : pT σ τ n T) (hH : pHr σ n T pl sp k t) (ht : t ≤ 9) {a h : Nat} (ha : a < n) (hh : h < n) (hb : tms n T pl sp k t a h (fun _ => true) (fun _ => true) ≤ 2985984) : fX3_truth σ (nI a) (nI h) = some (nI (tru n T pl sp k a h)) := by
  unfold fX3_truth
  rw [c_heardTimes hH ha hh, Option.bind_some, ← tru_t ht]
  by_cases z0 : nI (tms n T pl sp k t a h (fun _ => true) (fun _ => true)) = 0
  · rw [if_pos z0]
    have e : tms n T pl sp k t a h (fun _ => true) (fun _ => true) = 0 := by
      rcases Nat.eq_zero_or_pos (tms n T pl sp k t a h (fun _ => true) (fun _ => true)) with q | q
      · exact q
      · exact absurd z0 (nI_ne0 q (by omega))
    rw [e, Nat.div_zero]
    rfl
  · rw [if_neg z0, c_saidTimes hT hH ha hh, Option.bind_some, zth (by omega) tms_mono z0, Option.bind_some, lN_i]
theorem m_truth {σ τ : zSt} {n : Nat} {T : Nat → Nat → Nat → Nat} {c : Nat} {kd td : Nat → Nat} {pl : Nat} {sp : Nat → Nat → Nat} {t : Nat} {tb tw th ts tm : Nat → Nat} (hT : pT σ τ n T) (hC : pC σ τ c kd td) (hW : pW σ τ n 1 pl sp) (hU : pU σ τ n T c kd 1 pl sp t tb tw th ts tm) {u : Nat} (hu : u < t) : fX11_truthOf τ (nI u) = some (nI (tru n T pl sp (kd (tb u)) (tw u) (th u))) := by
  have ht := hU.1
  obtain ⟨⟨b1, b2, b3, -⟩, -, m1, m2, m3, -⟩ := hU.2.2.2.2 u hu
  have g2 := (hC.2.2.2 (tb u) b1).2.1
  have hb := tms_ok (k := kd (tb u)) (t := td (tb u)) hT hW b2 b3
  have r11 : zrI 1 τ 11 (nI u) = some (nI (tb u)) := by rw [zrI_n (n := 6) (by decide) (by omega), m1]
  have r12 : zrI 1 τ 12 (nI u) = some (nI (tw u)) := by rw [zrI_n (n := 6) (by decide) (by omega), m2]
  have r13 : zrI 1 τ 13 (nI u) = some (nI (th u)) := by rw [zrI_n (n := 6) (by decide) (by omega), m3]
  unfold fX11_truthOf
  rw [r11, r12, r13, Option.bind_some, Option.bind_some, Option.bind_some, m_timesA hT hC hW b1 b2 b3, Option.bind_some, Option.bind_some, Option.bind_some, Option.bind_some, Option.bind_some, (m_saidBy hT b3).1, Option.bind_some, m_timesS hT hC hW b1 b2 b3, Option.bind_some, ← tru_t g2]
  by_cases z0 : nI (tms n T pl sp (kd (tb u)) (td (tb u)) (tw u) (th u) (fun _ => true) (fun _ => true)) = 0
  · rw [if_pos z0]
    have e : tms n T pl sp (kd (tb u)) (td (tb u)) (tw u) (th u) (fun _ => true) (fun _ => true) = 0 := by
      rcases Nat.eq_zero_or_pos (tms n T pl sp (kd (tb u)) (td (tb u)) (tw u) (th u) (fun _ => true) (fun _ => true)) with q | q
      · exact q
      · exact absurd z0 (nI_ne0 q (by omega))
    rw [e, Nat.div_zero]
    rfl
  · rw [if_neg z0, zth (by omega) tms_mono z0, Option.bind_some, lN_i]
theorem q_ofTurn {σ τ : zSt} (h : Inv σ τ) (x y : Int32) : ∃ r, fX10_ofTurn σ x y = some r ∧ fX11_ofTurn τ x y = some r := by
  obtain ⟨n, T, c, kd, td, v, pl, sp, t, tb, tw, th, ts, tm, hA, hT, hC, hW, hU, hR, hX⟩ := h
  have ht := hU.1
  unfold fX10_ofTurn fX11_ofTurn
  rw [hU.2.1, hU.2.2.1]
  by_cases x0 : x < 0
  · rw [if_pos x0, if_pos x0]
    exact ⟨_, rfl, rfl⟩
  rw [if_neg x0, if_neg x0]
  by_cases x1 : x < nI t
  · rw [if_pos x1, if_pos x1]
    obtain ⟨u, hu0, rfl⟩ := nI_of x0
    have hu : u < t := (nI_ltI hu0 (by omega)).mp x1
    have hv := hU.2.2.2.1 (by omega)
    subst hv
    obtain ⟨⟨b1, b2, b3, -⟩, ⟨c0, c1, c2, c3, c4, c5⟩, m1, m2, m3, m4, m5⟩ := hU.2.2.2.2 u hu
    have zl := zkLine u (by omega)
    have q6 : ∀ j, j < 6 → (zrA 0 72 (nI u)).bind (fun q5 => (zrI 0 σ q5 (nI j)).bind fun v7 => some v7) = some (zI σ (73 + u) j) := fun j hj => by
      rw [zrA_n (n := 6) (by decide) (by omega), Option.bind_some, show 72 + 1 + u = 73 + u by omega, zrI_n zl hj, Option.bind_some]
    rcases pk_ix y (n := 6) (by decide) with y1 | y1 | ⟨j, hj, rfl⟩
    · rw [if_pos y1]
      have ne : ∀ k : Nat, k < 2 ^ 31 → ¬ y = nI k := fun k hk e => nI_pos hk (e ▸ y1)
      rw [if_neg (show ¬ y = (0 : Int32) from ne 0 (by decide)), if_neg (show ¬ y = (1 : Int32) from ne 1 (by decide)), if_neg (show ¬ y = (2 : Int32) from ne 2 (by decide)), if_neg (show ¬ y = (3 : Int32) from ne 3 (by decide)), if_neg (show ¬ y = (4 : Int32) from ne 4 (by decide)), if_neg (show ¬ y = (5 : Int32) from ne 5 (by decide))]
      exact ⟨_, rfl, rfl⟩
    · have y0 : ¬ y < 0 := fun q => absurd (Int32.lt_of_le_of_lt y1 q) (by decide)
      rw [if_neg y0, if_neg (show ¬ y < (6 : Int32) from fun q => absurd (Int32.lt_of_le_of_lt y1 q) (by decide))]
      have ne : ∀ k : Nat, k < 6 → ¬ y = nI k := fun k hk e => nI_ge hk (by decide) (e ▸ y1)
      rw [if_neg (show ¬ y = (0 : Int32) from ne 0 (by decide)), if_neg (show ¬ y = (1 : Int32) from ne 1 (by decide)), if_neg (show ¬ y = (2 : Int32) from ne 2 (by decide)), if_neg (show ¬ y = (3 : Int32) from ne 3 (by decide)), if_neg (show ¬ y = (4 : Int32) from ne 4 (by decide)), if_neg (show ¬ y = (5 : Int32) from ne 5 (by decide))]
      exact ⟨_, rfl, rfl⟩
    · rw [if_neg (nI_pos (by omega)), if_pos (show nI j < (6 : Int32) from nI_lt (b := 6) hj (by decide)), q6 j hj, m_truth hT hC hW hU hu, zrI_n (n := 6) (by decide) (by omega), zrI_n (n := 6) (by decide) (by omega), zrI_n (n := 6) (by decide) (by omega), zrI_n (n := 6) (by decide) (by omega), zrI_n (n := 6) (by decide) (by omega), m1, m2, m3, m4, m5]
      rcases (show j = 0 ∨ j = 1 ∨ j = 2 ∨ j = 3 ∨ j = 4 ∨ j = 5 by omega) with rfl | rfl | rfl | rfl | rfl | rfl
      · rw [c0]; exact ⟨_, rfl, rfl⟩
      · rw [c1]; exact ⟨_, rfl, rfl⟩
      · rw [c2]; exact ⟨_, rfl, rfl⟩
      · rw [c3]; exact ⟨_, rfl, rfl⟩
      · rw [c4]; exact ⟨_, rfl, rfl⟩
      · rw [c5]; exact ⟨_, rfl, rfl⟩
  · rw [if_neg x1, if_neg x1]
    exact ⟨_, rfl, rfl⟩
theorem q_turn {σ τ : zSt} (h : Inv σ τ) (x y z p q : Int32) : ∃ r σ' τ', fX10_turn σ x y z p q = some (r, σ') ∧ fX11_turn τ x y z p q = some (r, τ') ∧ Inv σ' τ' := by
  have h9 := h
  obtain ⟨n, T, c, kd, td, v, pl, sp, t, tb, tw, th, ts, tm, hA, hT, hC, hW, hU, hR, hX⟩ := h
  have h6 := hT.2.1
  have hc := hC.1
  have hv := hW.1
  have ht := hU.1
  unfold fX10_turn fX11_turn fX11_isAsked fX11_within
  rw [z_int hC, z_intM hC, z_word hT, z_wordM hT, z_word hT, z_wordM hT]
  rcases zIn_c x (m := c) (by omega) with e | ⟨i, hi, rfl, e⟩
  · rw [e, i00, i00, i00]
    exact ⟨_, _, _, rfl, rfl, h9⟩
  rw [e, i10, i10]
  rcases zIn_c y (m := n) (by omega) with e | ⟨a, ha, rfl, e⟩
  · rw [e, i00, i00, i00]
    exact ⟨_, _, _, rfl, rfl, h9⟩
  rw [e, i10, i10]
  rcases zIn_c z (m := n) (by omega) with e | ⟨b, hb, rfl, e⟩
  · rw [e, i00, i00, i00]
    exact ⟨_, _, _, rfl, rfl, h9⟩
  rw [e, i10, i10, i10]
  by_cases p0 : p < 0
  · rw [if_pos p0, if_pos p0, i00]
    exact ⟨_, _, _, rfl, rfl, h9⟩
  rw [if_neg p0, if_neg p0]
  by_cases p1 : 9 < p
  · rw [if_pos p1, if_pos p1, i00]
    exact ⟨_, _, _, rfl, rfl, h9⟩
  rw [if_neg p1, if_neg p1, i10]
  by_cases m0 : q < 1
  · rw [if_pos m0, if_pos m0, i00]
    exact ⟨_, _, _, rfl, rfl, h9⟩
  rw [if_neg m0, if_neg m0]
  by_cases m1 : q ≤ 9
  case neg =>
    rw [if_neg m1, if_pos (show (9 : Int32) < q from Int32.not_le.mp m1), i00]
    exact ⟨_, _, _, rfl, rfl, h9⟩
  rw [if_pos m1, if_neg (show ¬ (9 : Int32) < q from Int32.not_lt.mpr m1), i10, hW.2.2.1, hW.2.2.2.1]
  rcases (show v = 0 ∨ v = 1 by omega) with rfl | rfl
  · rw [show nI 0 = (0 : Int32) from rfl, i00, i00]
    exact ⟨_, _, _, rfl, rfl, h9⟩
  rw [show nI 1 = (1 : Int32) from rfl, i10, i10]
  unfold fX4_isFull
  rw [hU.2.1, hU.2.2.1, show (6 : Int32) = nI 6 from rfl]
  by_cases t6 : t = 6
  · subst t6
    rw [i_nlt (Nat.le_refl _) (by decide), i_eq rfl, i10]
    exact ⟨_, _, _, rfl, rfl, h9⟩
  rw [i_lt (by omega) (by decide), i_ne t6 (by omega) (by decide), i00]
  obtain ⟨s, hs0, rfl⟩ := nI_of p0
  have hs : s ≤ 9 := by
    rcases Nat.lt_or_ge 9 s with w | w
    · exact absurd (nI_lt (a := 9) w hs0) p1
    · exact w
  obtain ⟨m, hm0, rfl⟩ := nI_of (x := q) (fun w => m0 (Int32.lt_trans w (by decide)))
  have hm1 : 1 ≤ m := by
    rcases Nat.lt_or_ge m 1 with w | w
    · exact absurd (nI_lt (b := 1) w (by decide)) m0
    · exact w
  have hm9 : m ≤ 9 := by
    rcases Nat.lt_or_ge 9 m with w | w
    · exact absurd m1 (nI_ge (a := 9) (b := m) w hm0)
    · exact w
  obtain ⟨g1, g2, g3, g4, g5, g6⟩ := hC.2.2.2 i hi
  obtain ⟨σ1, e1, e2, e3, e4⟩ := c_through hT g1 g2
  have zl := zkLine t (by omega)
  have w0 : ∀ ρ v, zsI 0 ρ (73 + t) (0 : Int32) v = some (zwI ρ (73 + t) 0 v) := fun ρ v => zsI_n (k := 0) zl (by decide)
  have w1 : ∀ ρ v, zsI 0 ρ (73 + t) (1 : Int32) v = some (zwI ρ (73 + t) 1 v) := fun ρ v => zsI_n (k := 1) zl (by decide)
  have w2 : ∀ ρ v, zsI 0 ρ (73 + t) (2 : Int32) v = some (zwI ρ (73 + t) 2 v) := fun ρ v => zsI_n (k := 2) zl (by decide)
  have w3 : ∀ ρ v, zsI 0 ρ (73 + t) (3 : Int32) v = some (zwI ρ (73 + t) 3 v) := fun ρ v => zsI_n (k := 3) zl (by decide)
  have w4 : ∀ ρ v, zsI 0 ρ (73 + t) (4 : Int32) v = some (zwI ρ (73 + t) 4 v) := fun ρ v => zsI_n (k := 4) zl (by decide)
  have w5 : ∀ ρ v, zsI 0 ρ (73 + t) (5 : Int32) v = some (zwI ρ (73 + t) 5 v) := fun ρ v => zsI_n (k := 5) zl (by decide)
  have nl : fX4_nextLine σ1 = some (73 + t) := by
    unfold fX4_nextLine
    rw [e3 8 1 (by omega), hU.2.1, zrA_n (n := 6) (by decide) (by omega), Option.bind_some, show 72 + 1 + t = 73 + t by omega]
  rw [zrI_n (n := 4) (by decide) (by omega), Option.bind_some, zrI_n (n := 4) (by decide) (by omega), Option.bind_some, g3, g5, e1, Option.bind_some, nl, Option.bind_some, w0, Option.bind_some, w1, Option.bind_some, w2, Option.bind_some, w3, Option.bind_some, w4, Option.bind_some]
  have v1 : ∀ (ρ : zSt) j, j < 6 → ∀ k v, 11 ≤ k → k ≤ 15 → zsI 1 ρ k (nI j) v = some (zwI ρ k j v) := fun ρ j hj k v h1 h2 => by
    rcases (show k = 11 ∨ k = 12 ∨ k = 13 ∨ k = 14 ∨ k = 15 by omega) with rfl | rfl | rfl | rfl | rfl <;> exact zsI_n (n := 6) (by decide) hj
  have ec : ∀ c' k', ¬ c' = 73 + t → zI (zwI (zwI (zwI (zwI (zwI σ1 (73 + t) 0 (nI i)) (73 + t) 1 (nI a)) (73 + t) 2 (nI b)) (73 + t) 3 (nI s)) (73 + t) 4 (nI m)) c' k' = zI σ1 c' k' := fun c' k' hne => by
    simp (disch := omega) only [zI_ne]
  have hT5 : pT (zwI (zwI (zwI (zwI (zwI σ1 (73 + t) 0 (nI i)) (73 + t) 1 (nI a)) (73 + t) 2 (nI b)) (73 + t) 3 (nI s)) (73 + t) 4 (nI m)) τ n T := hT.mv ((ec _ _ (by omega)).trans (e3 _ _ (by omega))) (fun c p h1 h2 => (ec _ _ (by omega)).trans (e3 c p (by omega))) rfl (fun _ => rfl)
  have hH5 : pHr (zwI (zwI (zwI (zwI (zwI σ1 (73 + t) 0 (nI i)) (73 + t) 1 (nI a)) (73 + t) 2 (nI b)) (73 + t) 3 (nI s)) (73 + t) 4 (nI m)) n T pl sp (kd i) (td i) := by
    refine ⟨h6, hT5.2.2.1, fun r hr q hq => ?_, fun r hr q hq => ?_⟩
    · rw [ec _ _ (by omega), ec _ _ (by omega)]
      exact e2 r hr q hq
    · rw [ec _ _ (by omega), e3 _ _ (by omega)]
      exact (((hW.2.2.2.2.2.2 rfl).2 r hr).2.1 q hq).2
  rw [c_truth hT5 hH5 g2 ha hb (tms_ok hT hW ha hb), Option.bind_some, w5, Option.bind_some]
  generalize htr : tru n T pl sp (kd i) a b = tr
  have t6' : t < 6 := by omega
  rw [v1 τ t t6' 11 (nI i) (by decide) (by decide), Option.bind_some]
  simp (disch := omega) only [zI_ne, hU.2.2.1]
  rw [v1 _ t t6' 12 _ (by decide) (by decide), Option.bind_some]
  simp (disch := omega) only [zI_ne, hU.2.2.1]
  rw [v1 _ t t6' 13 _ (by decide) (by decide), Option.bind_some]
  simp (disch := omega) only [zI_ne, hU.2.2.1]
  rw [v1 _ t t6' 14 _ (by decide) (by decide), Option.bind_some]
  simp (disch := omega) only [zI_ne, hU.2.2.1]
  rw [v1 _ t t6' 15 _ (by decide) (by decide), Option.bind_some]
  unfold fX4_keepLine
  simp (disch := omega) only [zI_ne, zI_self, hU.2.2.1]
  rw [e3 8 1 (by omega), hU.2.1]
  have erR : ∀ c p, zR σ1 c p = zR σ c p := fun c p => by unfold zR; rw [e4]
  have erJ : ∀ c p, zJ σ1 c p = zJ σ c p := fun c p => by unfold zJ; rw [e4]
  refine ⟨_, _, _, rfl, rfl, n, T, c, kd, td, 1, pl, sp, t + 1, va_up tb t i, va_up tw t a, va_up th t b, va_up ts t s, va_up tm t m, hA.mv ?_ ?_, hT.mv ?_ ?_ ?_ ?_, hC.mv ?_ ?_ ?_ ?_, hW.mv ?_ ?_ ?_ ?_ hT.2.1, ⟨by omega, ?_, ?_, fun _ => rfl, ?_⟩, hR.mv ?_ ?_ ?_ ?_ ?_ ?_, ?_, ?_⟩
  all_goals first
    | (intros; simp (disch := omega) only [zI_ne, zI_self]; done)
    | (intros; simp (disch := omega) only [zI_ne, zI_self]; first | exact e3 _ _ (by omega) | exact nI_1 t | (rw [e3 _ _ (by omega)]; first | exact hX.1 | exact hX.2))
    | exact erR _ _
    | exact erJ 9 3
    | skip
  · intro u hu
    by_cases e : u = t
    · subst e
      simp (disch := omega) only [zI_ne, zI_self, va_up_self]
      refine ⟨⟨hi, ha, hb, hs, hm1, hm9⟩, ⟨?_, ?_, ?_, ?_, ?_, ?_⟩, ?_, ?_, ?_, ?_, ?_⟩ <;> first | trivial | rfl | rw [htr]
    · rw [va_up_ne _ _ e, va_up_ne _ _ e, va_up_ne _ _ e, va_up_ne _ _ e, va_up_ne _ _ e]
      simp (disch := omega) only [zI_ne]
      have er : ∀ k, zI σ1 (73 + u) k = zI σ (73 + u) k := fun k => e3 _ k (by omega)
      rw [er, er, er, er, er, er]
      exact hU.2.2.2.2 u (by omega)
