/-! CARRYING -/
def gpl (n kind : Nat) (r : Nat → Nat) (k : Nat) : Nat := if k = amx n r then 0 else if kind = 0 then 0 else r k - r k / 2
theorem sm_gpl0 {n : Nat} {r : Nat → Nat} (i : Nat) : sm i (gpl n 0 r) = 0 := sm_zero (fun k _ => by unfold gpl; split <;> rfl)
theorem pln_m {n kind : Nat} {r : Nat → Nat} : pln n kind r (amx n r) = r (amx n r) + sm n (gpl n kind r) + (if kind = 2 then 12 - sm n r else 0) := by
  unfold pln
  rw [if_pos rfl]
  rfl
theorem pln_o {n kind : Nat} {r : Nat → Nat} {b : Nat} (h : b ≠ amx n r) : pln n kind r b = if kind = 0 then r b else r b / 2 := by
  unfold pln
  rw [if_neg h]
theorem m_plainly {σ τ : zSt} {n : Nat} {T : Nat → Nat → Nat → Nat} (hT : pT σ τ n T) {w a b k : Nat} (hw : w < 2) (ha : a < n) (hb : b < n) (hk : k ≤ 2) : fX11_plainly τ (nI k) (nI w) (nI a) (nI b) = some (nI (pln n k (T w a) b)) := by
  obtain ⟨h0, h6, h3, h5, hr⟩ := id hT
  obtain ⟨ok, hrow, -, -⟩ := hr w hw a ha
  have rd : ∀ b, b < n → zrI 1 τ 4 (nI (36 * w + 6 * a) + nI b) = some (nI (T w a b)) := fun b hb => by
    rw [nI_add, zrI_n (n := 72) (by decide) (by omega), (hrow b hb).2]
  have hmm := amx_lt (n := n) (f := T w a) (by omega)
  unfold fX11_plainly
  rw [rowOf_n, h5, m_lacks (N := 72) (r := T w a) (by decide) (by decide) (by omega) (by omega) (fun k hk => (hrow k hk).2) ok.2.2, Option.bind_some, i_ne (by omega : b ≠ n) (by omega) (by omega), m_meantBy hT hw ha, Option.bind_some, rd b hb, Option.bind_some, Option.bind_some, Option.bind_some]
  by_cases q : b = amx n (T w a)
  · rw [i_eq q]
    have lp : zLp (fun s : Int32 × Int32 => bX11_plainly_103 τ (nI k) (nI (36 * w + 6 * a)) (nI (12 - sm n (T w a))) (nI (amx n (T w a))) s.1 s.2) zFU (nI (T w a b), (0 : Int32)) = some (nI (T w a b + sm n (gpl n k (T w a))), if k = 0 then 0 else nI n) := by
      by_cases k0 : k = 0
      · subst k0
        refine zl_run (fun i => (nI (T w a b), nI i)) 0 rfl (fun i hi => absurd hi (by omega)) ?_ (by decide)
        show bX11_plainly_103 τ (nI 0) (nI (36 * w + 6 * a)) (nI (12 - sm n (T w a))) (nI (amx n (T w a))) (nI (T w a b)) (nI 0) = _
        unfold bX11_plainly_103
        rw [h5, i_nle (by omega) (by omega), if_pos (by decide), sm_gpl0, Nat.add_zero, if_pos rfl]
        rfl
      · rw [if_neg k0]
        refine zl_run (fun i => (nI (T w a b + sm i (gpl n k (T w a))), nI i)) n rfl (fun i hi => ?_) ?_ (by omega)
        · show bX11_plainly_103 τ (nI k) (nI (36 * w + 6 * a)) (nI (12 - sm n (T w a))) (nI (amx n (T w a))) (nI (T w a b + sm i (gpl n k (T w a)))) (nI i) = _
          unfold bX11_plainly_103
          have e : sm (i + 1) (gpl n k (T w a)) = sm i (gpl n k (T w a)) + gpl n k (T w a) i := rfl
          rw [h5, i_nle hi (by omega), show (0 : Int32) = nI 0 from rfl, show (2 : Int32) = nI 2 from rfl, i_nle (by omega) (by omega), rd i hi, Option.bind_some, Option.bind_some, nI_1, e]
          unfold gpl
          by_cases q2 : i = amx n (T w a)
          · rw [i_eq q2, if_pos q2, nI_add, Nat.add_assoc]
          · have := ok.1 i hi
            rw [i_ne q2 (by omega) (by omega), if_neg q2, if_neg k0, pk_div (by omega) (by decide) (by decide), pk_sub (by omega), nI_add, Nat.add_assoc]
        · show bX11_plainly_103 τ (nI k) (nI (36 * w + 6 * a)) (nI (12 - sm n (T w a))) (nI (amx n (T w a))) (nI (T w a b + sm n (gpl n k (T w a)))) (nI n) = _
          unfold bX11_plainly_103
          rw [h5, i_le (Nat.le_refl _) (by omega)]
    rw [lp, Option.bind_some, show (2 : Int32) = nI 2 from rfl]
    have e : pln n k (T w a) b = T w a b + sm n (gpl n k (T w a)) + (if k = 2 then 12 - sm n (T w a) else 0) := by rw [q]; exact pln_m
    rw [e]
    by_cases k2 : k = 2
    · rw [i_eq k2, if_pos k2, nI_add]
    · rw [i_ne k2 (by omega) (by omega), if_neg k2, Nat.add_zero]
  · rw [i_ne q (by omega) (by omega), pln_o q, show (0 : Int32) = nI 0 from rfl, show (2 : Int32) = nI 2 from rfl]
    have := ok.1 b hb
    by_cases k0 : k = 0
    · rw [i_le (by omega) (by omega), if_pos k0]
    · rw [i_nle (by omega) (by omega), if_neg k0, pk_div (by omega) (by decide) (by decide)]
theorem m_carried {σ τ : zSt} {n : Nat} {T : Nat → Nat → Nat → Nat} (hT : pT σ τ n T) {c : Nat} {kd td : Nat → Nat} (hC : pC σ τ c kd td) {x w a b : Nat} (hx : x < c) (hw : w < 2) (ha : a < n) (hb : b < n) : fX11_carried τ (nI x) (nI w) (nI a) (nI b) = some (nI (crr n (kd x) (td x) (T w a) b)) := by
  have hc := hC.1
  have h6 := hT.2.1
  obtain ⟨g1, g2, g3, g4, g5, g6⟩ := hC.2.2.2 x hx
  unfold fX11_carried crr
  rw [zrI_n (n := 4) (by decide) (by omega), Option.bind_some, g4, m_plainly hT hw ha hb g1, Option.bind_some, zrI_n (n := 4) (by decide) (by omega), Option.bind_some, g6, hT.2.2.2.1, i_ne (by omega) (by omega) (by omega), show (12 : Int32) = nI 12 from rfl, pk_sub (by omega), pk_mul]
/-- what is left out -/
def crl (n kind tired : Nat) (r : Nat → Nat) : Nat := (if kind = 2 then 0 else 12 - sm n r) * (12 - tired) + 12 * tired
theorem m_carriedL {σ τ : zSt} {n : Nat} {T : Nat → Nat → Nat → Nat} (hT : pT σ τ n T) {c : Nat} {kd td : Nat → Nat} (hC : pC σ τ c kd td) {x w a : Nat} (hx : x < c) (hw : w < 2) (ha : a < n) : fX11_carried τ (nI x) (nI w) (nI a) (nI n) = some (nI (crl n (kd x) (td x) (T w a))) := by
  have hc := hC.1
  have h6 := hT.2.1
  obtain ⟨g1, g2, g3, g4, g5, g6⟩ := hC.2.2.2 x hx
  obtain ⟨ok, hrow, -, -⟩ := hT.2.2.2.2 w hw a ha
  unfold fX11_carried fX11_plainly crl
  rw [zrI_n (n := 4) (by decide) (by omega), Option.bind_some, g4, rowOf_n, hT.2.2.2.1, m_lacks (N := 72) (r := T w a) (by decide) (by decide) (by omega) (by omega) (fun k hk => (hrow k hk).2) ok.2.2, Option.bind_some, i_eq (rfl : n = n), zrI_n (n := 4) (by decide) (by omega), g6, show (2 : Int32) = nI 2 from rfl]
  by_cases k2 : kd x = 2
  · rw [i_eq k2, if_pos k2, Option.bind_some, Option.bind_some, i_eq (rfl : n = n), Option.bind_some, show (12 : Int32) = nI 12 from rfl, pk_sub (by omega), show (0 : Int32) = nI 0 from rfl, pk_mul, pk_mul, nI_add]
  · rw [i_ne k2 (by omega) (by omega), if_neg k2, Option.bind_some, Option.bind_some, i_eq (rfl : n = n), Option.bind_some, show (12 : Int32) = nI 12 from rfl, pk_sub (by omega), pk_mul, pk_mul, nI_add]
/-- the landed system's carry: the row q gets what is carried -/
theorem c_carry {σ τ : zSt} {n : Nat} {T : Nat → Nat → Nat → Nat} (hT : pT σ τ n T) {w a k t q : Nat} (hw : w < 2) (ha : a < n) (hk : k ≤ 2) (ht : t ≤ 9) (hq : zkI 0 q 6) (hq2 : ¬ (33 ≤ q ∧ q ≤ 45)) : ∃ σ', fX8_carry σ q (nI w) (nI a) (nI k) (nI t) = some σ' ∧ (∀ c p, zI σ' c p = if c = q ∧ p < n then nI (crr n k t (T w a) p) else zI σ c p) ∧ σ'.2 = σ.2 := by
  obtain ⟨h0, h6, h3, h5, hr⟩ := id hT
  obtain ⟨ok, hrow, hl, -⟩ := hr w hw a ha
  have hmm := amx_lt (n := n) (f := T w a) (by omega)
  have hq3 : q ≠ 3 := fun e => by subst e; exact absurd hq (by decide)
  unfold fX8_carry
  rw [show (6 : Int32) = nI 6 from rfl, pk_mul, nI_add, zrA_n (n := 12) (by decide) (by omega), Option.bind_some, c_meaning hT hw ha, Option.bind_some, show 32 + 1 + (w * 6 + a) = 33 + (6 * w + a) by omega, zrI_n (zkTold _ (by omega)) (by omega), (hrow _ hmm).1, Option.bind_some]
  obtain ⟨⟨y1, y2, s1⟩, l1, l2⟩ := zl_inv (body := fun s : Int32 × Int32 × zSt => bX8_carry_31 q (nI k) (nI t) (33 + (6 * w + a)) (nI (amx n (T w a))) s.1 s.2.1 s.2.2) (a := (nI (T w a (amx n (T w a))), (0 : Int32), σ)) (fun i (s : Int32 × Int32 × zSt) => s.1 = nI (T w a (amx n (T w a)) + sm i (gpl n k (T w a))) ∧ s.2.1 = nI i ∧ (∀ c p, zI s.2.2 c p = if c = q ∧ p < i then nI ((if k = 0 then T w a p else T w a p / 2) * (12 - t)) else zI σ c p) ∧ s.2.2.2 = σ.2) n (fun (s : Int32 × Int32 × zSt) => s.1 = nI (T w a (amx n (T w a)) + sm n (gpl n k (T w a))) ∧ (∀ c p, zI s.2.2 c p = if c = q ∧ p < n then nI ((if k = 0 then T w a p else T w a p / 2) * (12 - t)) else zI σ c p) ∧ s.2.2.2 = σ.2) ⟨rfl, rfl, fun c p => by rw [if_neg (by omega)], rfl⟩ (fun i s hi hI => by
      obtain ⟨x8, x9, s0⟩ := s
      obtain ⟨e1, e2, e3, e4⟩ := hI
      have e1 : x8 = nI (T w a (amx n (T w a)) + sm i (gpl n k (T w a))) := e1
      have e2 : x9 = nI i := e2
      have e3 : ∀ c p, zI s0 c p = if c = q ∧ p < i then nI ((if k = 0 then T w a p else T w a p / 2) * (12 - t)) else zI σ c p := e3
      have e4 : s0.2 = σ.2 := e4
      subst e1
      subst e2
      have bi := ok.1 i hi
      refine ⟨(nI (T w a (amx n (T w a)) + sm (i + 1) (gpl n k (T w a))), nI (i + 1), zwI s0 q i (nI ((if k = 0 then T w a i else T w a i / 2) * (12 - t)))), ?_, rfl, rfl, fun c p => ?_, e4⟩
      · show bX8_carry_31 q (nI k) (nI t) (33 + (6 * w + a)) (nI (amx n (T w a))) (nI (T w a (amx n (T w a)) + sm i (gpl n k (T w a)))) (nI i) s0 = _
        unfold bX8_carry_31
        have e : sm (i + 1) (gpl n k (T w a)) = sm i (gpl n k (T w a)) + gpl n k (T w a) i := rfl
        have rr : zI s0 (33 + (6 * w + a)) i = nI (T w a i) := by rw [e3, if_neg (show ¬ (33 + (6 * w + a) = q ∧ i < i) by omega), (hrow i hi).1]
        have z30 : zI s0 3 0 = nI n := by rw [e3, if_neg (show ¬ (3 = q ∧ 0 < i) by omega), h3]
        rw [z30, i_nle hi (by omega), zrI_n (zkTold _ (by omega)) (by omega), rr, Option.bind_some, Option.bind_some, show (12 : Int32) = nI 12 from rfl, show (0 : Int32) = nI 0 from rfl, show (2 : Int32) = nI 2 from rfl, pk_sub (by omega), pk_div (by omega) (by decide) (by decide), pk_mul, pk_mul, zsI_n hq (by omega), zsI_n hq (by omega), Option.bind_some, Option.bind_some, nI_1, e, zrI_n (zkTold _ (by omega)) (by omega), zrI_n (zkTold _ (by omega)) (by omega), zI_ne (by omega), zI_ne (by omega), rr, Option.bind_some, Option.bind_some]
        unfold gpl
        by_cases k0 : k = 0
        · subst k0
          rw [i_eq rfl]
          by_cases q2 : i = amx n (T w a)
          · rw [i_eq q2, if_pos q2]
            rfl
          · rw [i_ne q2 (by omega) (by omega), if_neg q2, pk_sub (Nat.le_refl _), nI_add, Nat.sub_self]
            rfl
        · rw [i_ne k0 (by omega) (by omega), if_neg k0, if_neg k0]
          by_cases q2 : i = amx n (T w a)
          · rw [i_eq q2, if_pos q2]
            rfl
          · rw [i_ne q2 (by omega) (by omega), if_neg q2, pk_sub (by omega), nI_add, Nat.add_assoc]
      · show zI (zwI s0 q i (nI ((if k = 0 then T w a i else T w a i / 2) * (12 - t)))) c p = _
        rw [zI_wI, e3]
        by_cases e : c = q ∧ p = i
        · rw [if_pos e, if_pos (show c = q ∧ p < i + 1 by omega), e.2]
        · rw [if_neg e]
          by_cases e2 : c = q ∧ p < i
          · rw [if_pos e2, if_pos (show c = q ∧ p < i + 1 by omega)]
          · rw [if_neg e2, if_neg (show ¬ (c = q ∧ p < i + 1) by omega)]) (fun s hI => by
      obtain ⟨x8, x9, s0⟩ := s
      obtain ⟨e1, e2, e3, e4⟩ := hI
      have e2 : x9 = nI n := e2
      have e3 : ∀ c p, zI s0 c p = if c = q ∧ p < n then nI ((if k = 0 then T w a p else T w a p / 2) * (12 - t)) else zI σ c p := e3
      subst e2
      refine ⟨(x8, nI n, s0), ?_, e1, e3, e4⟩
      show bX8_carry_31 q (nI k) (nI t) (33 + (6 * w + a)) (nI (amx n (T w a))) x8 (nI n) s0 = _
      unfold bX8_carry_31
      have z30 : zI s0 3 0 = nI n := by rw [e3, if_neg (show ¬ (3 = q ∧ 0 < n) by omega), h3]
      rw [z30, i_le (Nat.le_refl _) (by omega)]) (by omega)
  obtain ⟨e1, e3, e4⟩ := l2
  have e1 : y1 = nI (T w a (amx n (T w a)) + sm n (gpl n k (T w a))) := e1
  have e3 : ∀ c p, zI s1 c p = if c = q ∧ p < n then nI ((if k = 0 then T w a p else T w a p / 2) * (12 - t)) else zI σ c p := e3
  have e4 : s1.2 = σ.2 := e4
  subst e1
  rw [l1, Option.bind_some, show (12 : Int32) = nI 12 from rfl, show (2 : Int32) = nI 2 from rfl]
  have fin : (if nI k = nI 2 then (zrI 0 s1 (33 + (6 * w + a)) (zI s1 3 0)).bind fun v12 => (zsI 0 s1 q (nI (amx n (T w a))) ((nI (T w a (amx n (T w a)) + sm n (gpl n k (T w a))) + v12) * (nI 12 - nI t))).bind fun s14 => some s14 else (zsI 0 s1 q (nI (amx n (T w a))) (nI (T w a (amx n (T w a)) + sm n (gpl n k (T w a))) * (nI 12 - nI t))).bind fun s10 => some s10) = some (zwI s1 q (amx n (T w a)) (nI (crr n k t (T w a) (amx n (T w a))))) := by
    unfold crr
    have z30 : zI s1 3 0 = nI n := by rw [e3, if_neg (show ¬ (3 = q ∧ 0 < n) by omega), h3]
    have zl : zI s1 (33 + (6 * w + a)) n = nI (12 - sm n (T w a)) := by rw [e3, if_neg (show ¬ (33 + (6 * w + a) = q ∧ n < n) by omega), hl]
    rw [pln_m, z30, zrI_n (zkTold _ (by omega)) (by omega), zl, Option.bind_some, pk_sub (by omega), nI_add, pk_mul, pk_mul, zsI_n hq (by omega), zsI_n hq (by omega), Option.bind_some, Option.bind_some]
    by_cases k2 : k = 2
    · rw [i_eq k2, if_pos k2]
    · rw [i_ne k2 (by omega) (by omega), if_neg k2, Nat.add_zero]
  rw [fin]
  refine ⟨_, rfl, fun c p => ?_, e4⟩
  rw [zI_wI, e3]
  by_cases e : c = q ∧ p = amx n (T w a)
  · rw [if_pos e, if_pos (show c = q ∧ p < n by omega), e.2]
  · rw [if_neg e]
    by_cases e2 : c = q ∧ p < n
    · rw [if_pos e2, if_pos e2]
      unfold crr
      rw [pln_o (by omega)]
    · rw [if_neg e2, if_neg e2]
