section PLAN
def Pkr (r c s : Nat) : Nat := sPk r (s / 20) (s / 2 % 10) (s % 2) c
theorem sto_d {a b l : Nat} (hb : b ≤ 9) (hl : l < 2) : sto a b l / 20 = a ∧ sto a b l / 2 % 10 = b ∧ sto a b l % 2 = l := by
  unfold sto
  refine ⟨?_, ?_, ?_⟩ <;> omega
theorem Pkr_t1 {r c s : Nat} (hs : s < 200) : Pkr r c (t1 s) = sPk r (sMo (s / 20)) (s / 2 % 10 - 1) 0 c := by
  obtain ⟨e1, e2, e3⟩ := sto_d (a := sMo (s / 20)) (b := s / 2 % 10 - 1) (l := 0) (by omega) (by decide)
  unfold Pkr t1
  rw [e1, e2, e3]
theorem Pkr_t2 {r c s : Nat} (hs : s < 200) : Pkr r c (t2 s) = sPk r (s / 20 - 1) (sMo (s / 2 % 10)) 1 c := by
  obtain ⟨e1, e2, e3⟩ := sto_d (a := s / 20 - 1) (b := sMo (s / 2 % 10)) (l := 1) sMo_le (by decide)
  unfold Pkr t2
  rw [e1, e2, e3]
theorem Pkr_s {r c s : Nat} (hs : s < 200) : Pkr (r + 1) c s = Pst (Pkr r c) c r s := by
  unfold Pst
  rw [Pkr_t1 hs, Pkr_t2 hs]
  rfl
theorem Pst_v {a b m c : Nat} (ha : a ≤ 9) (hb : b ≤ 9) : Pst (Pkr (m - 1) c) 0 (m - 1) (sto a b 0) = sPv a b m c := by
  obtain ⟨e1, e2, e3⟩ := sto_d (a := a) (b := b) (l := 0) hb (by decide)
  have hs : sto a b 0 < 200 := by unfold sto; omega
  unfold Pst
  rw [Pkr_t1 hs, Pkr_t2 hs]
  unfold d1 d2 sPv
  rw [e1, e2, e3, if_pos rfl, if_neg (by decide), Nat.add_zero, Nat.add_zero]
def Ppl (m c i s : Nat) : Nat := if i = 0 then Pst (Pkr (m - 1) c) 0 (m - 1) s else Pkr (m - i) c s
theorem Ppl_0 {m c s : Nat} : Ppl m c 0 s = Pst (Pkr (m - 1) c) 0 (m - 1) s := by
  unfold Ppl
  rw [if_pos rfl]
theorem Ppl_n {m c i s : Nat} : Ppl m c (i + 1) s = Pkr (m - (i + 1)) c s := by
  unfold Ppl
  rw [if_neg (by omega)]
theorem Ppl_m {m c s : Nat} (h : 1 ≤ m) : Ppl m c m s = 0 := by
  unfold Ppl Pkr
  rw [if_neg (by omega), Nat.sub_self, sPk]
theorem Ppl_s {m c i s : Nat} (hs : s < 200) (hi : i < m) : Ppl m c i s = Pst (Pkr (m - (i + 1)) c) (if i = 0 then 0 else c) (m - 1 - i) s := by
  unfold Ppl
  by_cases e : i = 0
  · subst e
    rw [if_pos rfl, if_pos rfl, Nat.sub_zero, Nat.zero_add]
  · rw [if_neg e, if_neg e, show m - i = m - (i + 1) + 1 by omega, Pkr_s hs, show m - 1 - i = m - (i + 1) by omega]
theorem c_plan {σ : zSt} (hR : pR σ) {a b m c : Nat} (ha : a ≤ 9) (hb : b ≤ 9) (h1 : 1 ≤ m) (hm : m ≤ 40) (hc : c ≤ 9) : ∃ σ', fX7_plan σ (nI a) (nI b) (nI m) (nI c) = some σ' ∧ zJ σ' 9 3 = lN (sPv a b m c) ∧ (∀ c' k, ¬ (c' = 9 ∧ k = 2) → zI σ' c' k = zI σ c' k) ∧ pR σ' := by
  have key : (((((nI a * (10 : Int32)) + nI b) * (10 : Int32)) + nI c) * (41 : Int32)) + nI m = nI (((a * 10 + b) * 10 + c) * 41 + m) := by
    rw [show (10 : Int32) = nI 10 from rfl, show (41 : Int32) = nI 41 from rfl, pk_mul, nI_add, pk_mul, nI_add, pk_mul, nI_add]
  have tl := sPv_lt (a := a) (b := b) (m := m) (c := c) ha hb hc h1 hm
  have mx : (9223372036854775807 : Int64) = lN 9223372036854775807 := rfl
  obtain ⟨M, hM⟩ : ∃ M, M = 19 * 2 ^ 40 := ⟨_, rfl⟩
  unfold fX7_plan
  rw [key]
  by_cases k0 : nI (((a * 10 + b) * 10 + c) * 41 + m) = zI σ 9 2
  · rw [if_pos k0]
    exact ⟨σ, rfl, hR.2.2 a b m c ha hb h1 hm hc k0.symm, fun _ _ _ => rfl, hR⟩
  rw [if_neg k0]
  generalize htot : sPv a b m c = tot at *
  obtain ⟨p, q, hp⟩ : ∃ p q, pRf σ p q := by
    rcases hR.2.1 with ⟨e1, e2⟩ | ⟨e1, e2⟩
    · exact ⟨80, 81, Or.inl ⟨rfl, rfl⟩, e1, e2⟩
    · exact ⟨81, 80, Or.inr ⟨rfl, rfl⟩, e1, e2⟩
  have kp : zkJ 0 p 200 := by rcases hp.1 with e | e <;> rw [e.1] <;> decide
  obtain ⟨ρ, f1, f2, f3, f4⟩ := q_fillJ (σ := σ) (j := p) (n := 200) kp (by decide) 9223372036854775807
  have rr : ∀ c k, zR ρ c k = zR σ c k := fun c k => by unfold zR; exact congrFun (congrFun f4 c) k
  have st : fX7_stateOf (nI a) (nI b) (0 : Int32) = nI (sto a b 0) := c_state a b 0
  have sl : sto a b 0 < 200 := by unfold sto; omega
  rw [hp.2.1, f1, Option.bind_some, rr, hp.2.1, st, zsJ_n kp sl, Option.bind_some]
  obtain ⟨⟨y1, s1⟩, l1, ⟨p1, q1, l2, l3, l4⟩, l5, l6⟩ : ∃ w : Int32 × zSt, zLp (fun r : Int32 × zSt => bX7_plan_54 (nI m) (nI c) (nI (((a * 10 + b) * 10 + c) * 41 + m)) r.1 r.2) zFU ((0 : Int32), zwJ ρ p (sto a b 0) 0) = some w ∧ ((∃ p q, pRf w.2 p q ∧ (∀ s, s < 200 → pVal (Ppl m c m) tot (m * M) s (zJ w.2 p s)) ∧ ∃ s u, s < 200 ∧ zJ w.2 p s = lN u ∧ u ≤ m * M ∧ u + Ppl m c m s = tot) ∧ w.2.1 = σ.1 ∧ ∀ k, zR w.2 7 k = zR σ 7 k) := by
    refine zl_inv (body := fun r : Int32 × zSt => bX7_plan_54 (nI m) (nI c) (nI (((a * 10 + b) * 10 + c) * 41 + m)) r.1 r.2) (fun i r => r.1 = nI i ∧ (∃ p q, pRf r.2 p q ∧ (∀ s, s < 200 → pVal (Ppl m c i) tot (i * M) s (zJ r.2 p s)) ∧ ∃ s u, s < 200 ∧ zJ r.2 p s = lN u ∧ u ≤ i * M ∧ u + Ppl m c i s = tot) ∧ r.2.1 = σ.1 ∧ ∀ k, zR r.2 7 k = zR σ 7 k) m _ ⟨rfl, ⟨p, q, ⟨hp.1, (rr 9 0).trans hp.2.1, (rr 9 1).trans hp.2.2⟩, fun s hs => ?_, ⟨sto a b 0, 0, sl, ?_, Nat.zero_le _, ?_⟩⟩, f3, fun k => rr 7 k⟩ (fun i r hi hI => ?_) (fun r hI => ?_) (by omega)
    · show pVal (Ppl m c 0) tot _ s (zJ (zwJ ρ p (sto a b 0) 0) p s)
      by_cases e : s = sto a b 0
      · subst e
        rw [zJ_self]
        refine Or.inr ⟨0, rfl, Nat.zero_le _, ?_⟩
        rw [Nat.zero_add, Ppl_0, Pst_v ha hb, htot]
        exact Nat.le_refl _
      · rw [zJ_ne (fun z => e z.2), f2, if_pos ⟨rfl, hs⟩]
        exact Or.inl rfl
    · show zJ (zwJ ρ p (sto a b 0) 0) p (sto a b 0) = lN 0
      rw [zJ_self]
      rfl
    · rw [Nat.zero_add, Ppl_0, Pst_v ha hb, htot]
    · obtain ⟨x, r⟩ := r
      obtain ⟨g1, ⟨p, q, g2, g3, g4⟩, g5, g6⟩ := hI
      have g1 : x = nI i := g1
      subst g1
      have g3 : ∀ s, s < 200 → pVal (Ppl m c i) tot (i * M) s (zJ r p s) := g3
      have bb : i * M + M = (i + 1) * M := (Nat.succ_mul i M).symm
      have bl : (i + 1) * M ≤ 40 * M := Nat.mul_le_mul_right _ (by omega)
      obtain ⟨s', c1, c2, c3, c4, c5, c6⟩ := c_minute (σ := r) (cs := if i = 0 then 0 else c) (k := m - 1 - i) (P := Pkr (m - (i + 1)) c) (tot := tot) (B := i * M) g2 (by split <;> omega) (by omega) (by rw [← hM, bb]; exact Nat.lt_of_le_of_lt bl (by rw [hM]; decide)) (fun s hs => by
        rcases g3 s hs with e | ⟨u, e1, e2, e3⟩
        · exact Or.inl e
        · exact Or.inr ⟨u, e1, e2, by rw [← Ppl_s hs hi]; exact e3⟩) (by
        obtain ⟨s, u, e1, e2, e3, e4⟩ := g4
        exact ⟨s, u, e1, e2, e3, by rw [← Ppl_s e1 hi]; exact e4⟩)
      rw [← hM, bb] at c3 c4
      have pn : ∀ s, Ppl m c (i + 1) s = Pkr (m - (i + 1)) c s := fun s => Ppl_n
      have sb : nI m - 1 - nI i = nI (m - 1 - i) := by rw [show (1 : Int32) = nI 1 from rfl, pk_sub h1, pk_sub (by omega)]
      refine ⟨(nI i + 1, s'), ?_, nI_1 i, ⟨q, p, c2, fun s hs => ?_, ?_⟩, c5.trans g5, fun k => (c6 k).trans (g6 k)⟩
      · show bX7_plan_54 (nI m) (nI c) (nI (((a * 10 + b) * 10 + c) * 41 + m)) (nI i) r = _
        unfold bX7_plan_54
        rw [i_nle hi (by omega), sb, c_bit _ (by omega)]
        by_cases e : i = 0
        · rw [if_pos e] at c1
          rw [e, if_pos (show nI 0 = (0 : Int32) from rfl)]
          rw [e] at c1
          rw [show (0 : Int32) = nI 0 from rfl, c1, Option.bind_some]
        · rw [if_neg e] at c1
          rw [if_neg (nI_ne0 (by omega) (by omega)), c1, Option.bind_some]
      · rcases c3 s hs with e | ⟨u, e1, e2, e3⟩
        · exact Or.inl e
        · exact Or.inr ⟨u, e1, e2, by rw [pn]; exact e3⟩
      · obtain ⟨s, u, e1, e2, e3, e4⟩ := c4
        exact ⟨s, u, e1, e2, e3, by rw [pn]; exact e4⟩
    · obtain ⟨x, r⟩ := r
      obtain ⟨g1, g2⟩ := hI
      have g1 : x = nI m := g1
      subst g1
      refine ⟨(nI m, r), ?_, g2⟩
      show bX7_plan_54 (nI m) (nI c) (nI (((a * 10 + b) * 10 + c) * 41 + m)) (nI m) r = _
      unfold bX7_plan_54
      rw [i_le (Nat.le_refl _) (by omega)]
  have kp1 : zkJ 0 p1 200 := by rcases l2.1 with e | e <;> rw [e.1] <;> decide
  have p0 : ∀ s, Ppl m c m s = 0 := fun s => Ppl_m h1
  have bl : m * M ≤ 40 * M := Nat.mul_le_mul_right _ hm
  have l3 : ∀ s, s < 200 → zJ s1 p1 s = 9223372036854775807 ∨ ∃ u, zJ s1 p1 s = lN u ∧ u < 2 ^ 60 ∧ tot ≤ u := fun s hs => by
    rcases l3 s hs with e | ⟨u, e1, e2, e3⟩
    · exact Or.inl e
    · rw [p0, Nat.add_zero] at e3
      exact Or.inr ⟨u, e1, Nat.lt_of_le_of_lt (Nat.le_trans e2 bl) (by rw [hM]; decide), e3⟩
  obtain ⟨sx, ux, hx1, hx2, hx3, hx4⟩ := l4
  have hx2 : zJ s1 p1 sx = lN tot := by rw [p0, Nat.add_zero] at hx4; rw [← hx4]; exact hx2
  clear hx4 hx3
  obtain ⟨⟨y2, s2⟩, o1, o2, o3, o4⟩ : ∃ w : Int32 × zSt, zLp (fun r : Int32 × zSt => bX7_plan_99 (nI (((a * 10 + b) * 10 + c) * 41 + m)) r.1 r.2) zFU ((0 : Int32), zwJ s1 9 3 9223372036854775807) = some w ∧ (zJ w.2 9 3 = lN tot ∧ w.2.1 = s1.1 ∧ w.2.2.2 = s1.2.2) := by
    refine zl_inv (body := fun r : Int32 × zSt => bX7_plan_99 (nI (((a * 10 + b) * 10 + c) * 41 + m)) r.1 r.2) (fun i r => r.1 = nI i ∧ (zJ r.2 9 3 = 9223372036854775807 ∨ ∃ u, zJ r.2 9 3 = lN u ∧ u < 2 ^ 60 ∧ tot ≤ u) ∧ (sx < i → zJ r.2 9 3 = lN tot) ∧ (∀ s, zJ r.2 p1 s = zJ s1 p1 s) ∧ r.2.1 = s1.1 ∧ r.2.2.2 = s1.2.2) 200 _ ⟨rfl, Or.inl rfl, fun z => absurd z (Nat.not_lt_zero _), fun s => ?_, rfl, rfl⟩ (fun i r hi hI => ?_) (fun r hI => ?_) (by decide)
    · show zJ (zwJ s1 9 3 _) p1 s = _
      have := l2.1
      rw [zJ_ne (by omega)]
    · obtain ⟨x, r⟩ := r
      obtain ⟨g1, g2, g3, g4, g5, g6⟩ := hI
      have g1 : x = nI i := g1
      subst g1
      have g2 : zJ r 9 3 = 9223372036854775807 ∨ ∃ u, zJ r 9 3 = lN u ∧ u < 2 ^ 60 ∧ tot ≤ u := g2
      have g3 : sx < i → zJ r 9 3 = lN tot := g3
      have g4 : ∀ s, zJ r p1 s = zJ s1 p1 s := g4
      have g6 : r.2.2 = s1.2.2 := g6
      have rz : zR r 9 0 = p1 := (show zR r 9 0 = zR s1 9 0 by unfold zR; exact congrFun (congrFun g6 9) 0).trans l2.2.1
      have pne : ¬ p1 = 9 := by have := l2.1; omega
      refine ⟨(nI i + 1, zwJ r 9 3 (if zJ s1 p1 i < zJ r 9 3 then zJ s1 p1 i else zJ r 9 3)), ?_, nI_1 i, ?_, fun z => ?_, fun s => ?_, g5, g6⟩
      · show bX7_plan_99 (nI (((a * 10 + b) * 10 + c) * 41 + m)) (nI i) r = _
        unfold bX7_plan_99
        rw [if_neg (show ¬ (200 : Int32) ≤ nI i from nI_ge (b := 200) (by omega) (by decide)), rz, zrJ_n kp1 hi, Option.bind_some, g4]
      · show zJ (zwJ r 9 3 _) 9 3 = _ ∨ ∃ u, zJ (zwJ r 9 3 _) 9 3 = lN u ∧ _
        rw [zJ_self]
        split
        · exact l3 i hi
        · exact g2
      · show zJ (zwJ r 9 3 _) 9 3 = lN tot
        rw [zJ_self]
        by_cases e : sx = i
        · rw [← e, hx2]
          rcases g2 with m1 | ⟨u, u1, u2, u3⟩
          · rw [m1, mx, if_pos ((pk_lLT (by omega) (by decide)).mpr (by omega))]
          · rw [u1]
            by_cases z2 : tot < u
            · rw [if_pos ((pk_lLT (by omega) (by omega)).mpr z2)]
            · rw [if_neg (fun z3 => z2 ((pk_lLT (by omega) (by omega)).mp z3)), show u = tot by omega]
        · rw [g3 (by omega)]
          rcases l3 i hi with m1 | ⟨u, u1, u2, u3⟩
          · rw [m1, mx, if_neg (fun z3 => absurd ((pk_lLT (by decide) (by omega)).mp z3) (by omega))]
          · rw [u1, if_neg (fun z3 => absurd ((pk_lLT (by omega) (by omega)).mp z3) (by omega))]
      · show zJ (zwJ r 9 3 _) p1 s = _
        rw [zJ_ne (fun z => pne z.1)]
        exact g4 s
    · obtain ⟨x, r⟩ := r
      obtain ⟨g1, g2, g3, g4, g5⟩ := hI
      have g1 : x = nI 200 := g1
      subst g1
      refine ⟨(nI 200, r), ?_, g3 hx1, g5⟩
      show bX7_plan_99 (nI (((a * 10 + b) * 10 + c) * 41 + m)) (nI 200) r = _
      unfold bX7_plan_99
      rw [if_pos (by decide)]
  have o2 : zJ s2 9 3 = lN tot := o2
  have o3 : s2.1 = s1.1 := o3
  have o4 : s2.2.2 = s1.2.2 := o4
  have r2 : ∀ c k, zR s2 c k = zR s1 c k := fun c k => by unfold zR; exact congrFun (congrFun o4 c) k
  have i2 : ∀ c k, zI s2 c k = zI σ c k := fun c k => by unfold zI; exact congrFun (congrFun (o3.trans l5) c) k
  rw [l1, Option.bind_some, o1, Option.bind_some]
  refine ⟨_, rfl, o2, fun c' k hk => by rw [zI_ne hk]; exact i2 c' k, ?_, ?_, fun f s m' c' hf hs hm1 hm2 hc' hk => ?_⟩
  · show (zR s2 7 1 = 69 ∧ zR s2 7 2 = 70) ∨ (zR s2 7 1 = 70 ∧ zR s2 7 2 = 69)
    rw [r2, r2, (l6 1 : zR s1 7 1 = zR σ 7 1), (l6 2 : zR s1 7 2 = zR σ 7 2)]
    exact hR.1
  · show (zR s2 9 0 = 80 ∧ zR s2 9 1 = 81) ∨ (zR s2 9 0 = 81 ∧ zR s2 9 1 = 80)
    have e1 := l2.2.1
    have e2 := l2.2.2
    rw [r2, r2]
    rcases l2.1 with ⟨e3, e4⟩ | ⟨e3, e4⟩
    · exact Or.inl ⟨e1.trans e3, e2.trans e4⟩
    · exact Or.inr ⟨e1.trans e3, e2.trans e4⟩
  · rw [zI_self] at hk
    have ek := (nI_eq (by omega) (by omega)).mp hk
    have : f = a ∧ s = b ∧ m' = m ∧ c' = c := by omega
    obtain ⟨rfl, rfl, rfl, rfl⟩ := this
    rw [htot]
    exact o2
end PLAN
