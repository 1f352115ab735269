section SHIFTD
def Pst (P : Nat → Nat) (cs k s : Nat) : Nat := min (d1 cs s + P (t1 s)) (d2 cs k s + P (t2 s))
theorem rlx {ρ : zSt} {P : Nat → Nat} {tot B q t w : Nat} (hB : B < 2 ^ 60) (hA : ∀ s, s < 200 → pVal P tot B s (zJ ρ q s)) (ht : t < 200) (hw : w ≤ B) (htot : tot ≤ w + P t) : (∀ s, s < 200 → pVal P tot B s (zJ (zwJ ρ q t (if lN w < zJ ρ q t then lN w else zJ ρ q t)) q s)) ∧ (∃ v, zJ (zwJ ρ q t (if lN w < zJ ρ q t then lN w else zJ ρ q t)) q t = lN v ∧ v ≤ w ∧ v ≤ B) ∧ ∀ s v, s < 200 → zJ ρ q s = lN v → v ≤ B → ∃ v', zJ (zwJ ρ q t (if lN w < zJ ρ q t then lN w else zJ ρ q t)) q s = lN v' ∧ v' ≤ v := by
  obtain ⟨⟨v, e1, e2, e3, e4⟩, m⟩ := relax hB (hA t ht) hw htot
  refine ⟨fun s hs => ?_, ⟨v, by rw [zJ_self]; exact e1, e4, e2⟩, fun s v' hs h1 h2 => ?_⟩
  · by_cases e : s = t
    · subst e
      rw [zJ_self]
      exact Or.inr ⟨v, e1, e2, e3⟩
    · rw [zJ_ne (fun q => e q.2)]
      exact hA s hs
  · by_cases e : s = t
    · subst e
      rw [zJ_self]
      exact m v' h1 h2
    · rw [zJ_ne (fun q => e q.2)]
      exact ⟨v', h1, Nat.le_refl _⟩
theorem c_minute {σ : zSt} {p q cs k tot B : Nat} {P : Nat → Nat} (hR : pRf σ p q) (hc : cs ≤ 9) (hk : k < 40) (hB : B + 19 * 2 ^ 40 < 2 ^ 60) (hA : ∀ s, s < 200 → pVal (Pst P cs k) tot B s (zJ σ p s)) (hE : ∃ s u, s < 200 ∧ zJ σ p s = lN u ∧ u ≤ B ∧ u + Pst P cs k s = tot) : ∃ σ', fX7_workMinute σ (nI cs) (lN (2 ^ k)) = some σ' ∧ pRf σ' q p ∧ (∀ s, s < 200 → pVal P tot (B + 19 * 2 ^ 40) s (zJ σ' q s)) ∧ (∃ s u, s < 200 ∧ zJ σ' q s = lN u ∧ u ≤ B + 19 * 2 ^ 40 ∧ u + P s = tot) ∧ σ'.1 = σ.1 ∧ ∀ k, zR σ' 7 k = zR σ 7 k := by
  generalize hB' : B + 19 * 2 ^ 40 = B' at *
  obtain ⟨e, h1, h2⟩ := hR
  have kp : zkJ 0 p 200 := by rcases e with e | e <;> rw [e.1] <;> decide
  have kq : zkJ 0 q 200 := by rcases e with e | e <;> rw [e.2] <;> decide
  have pq : ¬ p = q := by omega
  obtain ⟨ρ, f1, f2, f3, f4⟩ := q_fillJ (σ := σ) (j := q) (n := 200) kq (by decide) 9223372036854775807
  have mx : (9223372036854775807 : Int64) = lN 9223372036854775807 := rfl
  obtain ⟨⟨y, s1⟩, l1, l2, l3, l4, l5, l6⟩ : ∃ b : Int32 × zSt, zLp (fun a : Int32 × zSt => bX7_workMinute_13 (nI cs) (lN (2 ^ k)) a.1 a.2) zFU ((0 : Int32), ρ) = some b ∧ (b.2.1 = σ.1 ∧ b.2.2.2 = σ.2.2 ∧ (∀ s, s < 200 → zJ b.2 p s = zJ σ p s) ∧ (∀ t, t < 200 → pVal P tot B' t (zJ b.2 q t)) ∧ ∀ s, s < 200 → ∀ u, zJ σ p s = lN u → u ≤ B → (∃ v, zJ b.2 q (t1 s) = lN v ∧ v ≤ u + d1 cs s ∧ v ≤ B') ∧ ∃ v, zJ b.2 q (t2 s) = lN v ∧ v ≤ u + d2 cs k s ∧ v ≤ B') := by
    refine zl_inv (body := fun a : Int32 × zSt => bX7_workMinute_13 (nI cs) (lN (2 ^ k)) a.1 a.2) (fun i b => b.1 = nI i ∧ b.2.1 = σ.1 ∧ b.2.2.2 = σ.2.2 ∧ (∀ s, s < 200 → zJ b.2 p s = zJ σ p s) ∧ (∀ t, t < 200 → pVal P tot B' t (zJ b.2 q t)) ∧ ∀ s, s < i → ∀ u, zJ σ p s = lN u → u ≤ B → (∃ v, zJ b.2 q (t1 s) = lN v ∧ v ≤ u + d1 cs s ∧ v ≤ B') ∧ ∃ v, zJ b.2 q (t2 s) = lN v ∧ v ≤ u + d2 cs k s ∧ v ≤ B') 200 _ ⟨rfl, f3, f4, fun s hs => ?_, fun t ht => ?_, fun s hs => absurd hs (Nat.not_lt_zero _)⟩ (fun i b hi hI => ?_) (fun b hI => ?_) (by decide)
    · show zJ ρ p s = _
      rw [f2, if_neg (fun z => pq z.1)]
    · show pVal P tot B' t (zJ ρ q t)
      rw [f2, if_pos ⟨rfl, ht⟩]
      exact Or.inl rfl
    · obtain ⟨x, r⟩ := b
      obtain ⟨g1, g2, g3, g4, g5, g6⟩ := hI
      have g1 : x = nI i := g1
      subst g1
      have g2 : r.1 = σ.1 := g2
      have g3 : r.2.2 = σ.2.2 := g3
      have g4 : ∀ s, s < 200 → zJ r p s = zJ σ p s := g4
      have g5 : ∀ t, t < 200 → pVal P tot B' t (zJ r q t) := g5
      have g6 : ∀ s, s < i → ∀ u, zJ σ p s = lN u → u ≤ B → (∃ v, zJ r q (t1 s) = lN v ∧ v ≤ u + d1 cs s ∧ v ≤ B') ∧ ∃ v, zJ r q (t2 s) = lN v ∧ v ≤ u + d2 cs k s ∧ v ≤ B' := g6
      have rr : ∀ c k, zR r c k = zR σ c k := fun c k => by unfold zR; exact congrFun (congrFun g3 c) k
      have hRr : pRf r p q := ⟨e, (rr 9 0).trans h1, (rr 9 1).trans h2⟩
      rcases hA i hi with m | ⟨u, hu, hu1, hu2⟩
      · refine ⟨(nI i + 1, r), ?_, nI_1 i, g2, g3, g4, g5, fun s hs u hu hu2 => ?_⟩
        · show bX7_workMinute_13 (nI cs) (lN (2 ^ k)) (nI i) r = _
          unfold bX7_workMinute_13
          rw [if_neg (show ¬ (200 : Int32) ≤ nI i from nI_ge (b := 200) (by omega) (by decide)), hRr.2.1, zrJ_n kp hi, Option.bind_some, g4 i hi, m, if_pos rfl]
        · by_cases z : s = i
          · subst z
            rw [hu, mx] at m
            exact absurd ((pk_lEQ (by omega) (by decide)).mp m) (by omega)
          · exact g6 s (by omega) u hu hu2
      · have dd1 := d1_le (cs := cs) hc hi
        have dd2 := d2_le (cs := cs) (k := k) (s := i) hc hk
        have w1 : u + d1 cs i ≤ B' := by rw [← hB']; exact Nat.add_le_add hu1 (Nat.le_trans dd1 (by decide))
        have w2 : u + d2 cs k i ≤ B' := by rw [← hB']; exact Nat.add_le_add hu1 dd2
        have q1 : tot ≤ u + d1 cs i + P (t1 i) := Nat.le_trans hu2 (by rw [Nat.add_assoc]; exact Nat.add_le_add_left (Nat.min_le_left _ _) _)
        have q2 : tot ≤ u + d2 cs k i + P (t2 i) := Nat.le_trans hu2 (by rw [Nat.add_assoc]; exact Nat.add_le_add_left (Nat.min_le_right _ _) _)
        have c1 := c_first1 (σ := r) hRr hi hc ((g4 i hi).trans hu)
        obtain ⟨a1, a2, a3⟩ := rlx hB g5 (t1_lt hi) w1 q1
        generalize hr2 : zwJ r q (t1 i) (if lN (u + d1 cs i) < zJ r q (t1 i) then lN (u + d1 cs i) else zJ r q (t1 i)) = r2 at c1 a1 a2 a3
        have hRr2 : pRf r2 p q := by rw [← hr2]; exact hRr
        have p2 : ∀ s, zJ r2 p s = zJ r p s := fun s => by rw [← hr2, zJ_ne (fun z => pq z.1)]
        have c2 := c_second1 (σ := r2) (k := k) hRr2 hi hc ((p2 i).trans ((g4 i hi).trans hu))
        obtain ⟨b1, b2, b3⟩ := rlx hB a1 (t2_lt hi) w2 q2
        generalize hr3 : zwJ r2 q (t2 i) (if lN (u + d2 cs k i) < zJ r2 q (t2 i) then lN (u + d2 cs k i) else zJ r2 q (t2 i)) = r3 at c2 b1 b2 b3
        have p3 : ∀ s, zJ r3 p s = zJ r p s := fun s => by rw [← hr3, zJ_ne (fun z => pq z.1), p2]
        refine ⟨(nI i + 1, r3), ?_, nI_1 i, ?_, ?_, fun s hs => (p3 s).trans (g4 s hs), b1, fun s hs u' hu' hu2' => ?_⟩
        · show bX7_workMinute_13 (nI cs) (lN (2 ^ k)) (nI i) r = _
          unfold bX7_workMinute_13
          rw [if_neg (show ¬ (200 : Int32) ≤ nI i from nI_ge (b := 200) (by omega) (by decide)), hRr.2.1, zrJ_n kp hi, Option.bind_some, g4 i hi, hu, if_neg (fun z => absurd ((pk_lEQ (by omega) (by decide)).mp (z.trans mx)) (by omega)), c1, Option.bind_some, c2, Option.bind_some]
        · show r3.1 = σ.1
          rw [← hr3, ← hr2]
          exact g2
        · show r3.2.2 = σ.2.2
          rw [← hr3, ← hr2]
          exact g3
        · show (∃ v, zJ r3 q (t1 s) = lN v ∧ v ≤ u' + d1 cs s ∧ v ≤ B') ∧ ∃ v, zJ r3 q (t2 s) = lN v ∧ v ≤ u' + d2 cs k s ∧ v ≤ B'
          by_cases z : s = i
          · subst z
            rw [hu] at hu'
            have eu := (pk_lEQ (by omega) (by omega)).mp hu'
            subst eu
            obtain ⟨v, v1, v2, v3⟩ := a2
            obtain ⟨v', v4, v5⟩ := b3 _ v (t1_lt hi) v1 v3
            exact ⟨⟨v', v4, by omega, by omega⟩, b2⟩
          · obtain ⟨⟨v, v1, v2, v3⟩, ⟨w, x1, x2, x3⟩⟩ := g6 s (by omega) u' hu' hu2'
            obtain ⟨va, y1, y2⟩ := a3 _ v (t1_lt (by omega)) v1 v3
            obtain ⟨vb, y3, y4⟩ := b3 _ va (t1_lt (by omega)) y1 (by omega)
            obtain ⟨wa, z1, z2⟩ := a3 _ w (t2_lt (by omega)) x1 x3
            obtain ⟨wb, z3, z4⟩ := b3 _ wa (t2_lt (by omega)) z1 (by omega)
            exact ⟨⟨vb, y3, by omega, by omega⟩, ⟨wb, z3, by omega, by omega⟩⟩
    · obtain ⟨x, r⟩ := b
      obtain ⟨g1, g2⟩ := hI
      have g1 : x = nI 200 := g1
      subst g1
      refine ⟨(nI 200, r), ?_, g2⟩
      show bX7_workMinute_13 (nI cs) (lN (2 ^ k)) (nI 200) r = _
      unfold bX7_workMinute_13
      rw [if_pos (by decide)]
  have l3 : s1.2.2 = σ.2.2 := l3
  have rr : ∀ c k, zR s1 c k = zR σ c k := fun c k => by unfold zR; exact congrFun (congrFun l3 c) k
  unfold fX7_workMinute
  rw [h2, f1, Option.bind_some, l1, Option.bind_some]
  refine ⟨_, rfl, ⟨by omega, ?_, ?_⟩, fun s hs => l5 s hs, ?_, l2, fun k => ?_⟩
  · show zR (zwR (zwR s1 9 0 (zR s1 9 1)) 9 1 (zR s1 9 0)) 9 0 = q
    rw [zR_ne (by decide), zR_self, rr, h2]
  · show zR (zwR (zwR s1 9 0 (zR s1 9 1)) 9 1 (zR s1 9 0)) 9 1 = p
    rw [zR_self, rr, h1]
  · obtain ⟨s, u, hs, hu, hu1, hu2⟩ := hE
    obtain ⟨⟨v, v1, v2, v3⟩, ⟨w, x1, x2, x3⟩⟩ := l6 s hs u hu hu1
    have tv : tot ≤ v + P (t1 s) := by
      rcases l5 _ (t1_lt hs) with m | ⟨u', e1, e2, e3⟩
      · exact absurd ((pk_lEQ (by omega) (by decide)).mp (v1.symm.trans (m.trans mx))) (by omega)
      · have := (pk_lEQ (by omega) (by omega)).mp (v1.symm.trans e1)
        omega
    have tw : tot ≤ w + P (t2 s) := by
      rcases l5 _ (t2_lt hs) with m | ⟨u', e1, e2, e3⟩
      · exact absurd ((pk_lEQ (by omega) (by decide)).mp (x1.symm.trans (m.trans mx))) (by omega)
      · have := (pk_lEQ (by omega) (by omega)).mp (x1.symm.trans e1)
        omega
    unfold Pst at hu2
    by_cases z : d1 cs s + P (t1 s) ≤ d2 cs k s + P (t2 s)
    · rw [Nat.min_eq_left z, ← Nat.add_assoc] at hu2
      exact ⟨t1 s, v, t1_lt hs, v1, v3, Nat.le_antisymm (Nat.le_trans (Nat.add_le_add_right v2 _) (Nat.le_of_eq hu2)) tv⟩
    · rw [Nat.min_eq_right (Nat.le_of_not_le z), ← Nat.add_assoc] at hu2
      exact ⟨t2 s, w, t2_lt hs, x1, x3, Nat.le_antisymm (Nat.le_trans (Nat.add_le_add_right x2 _) (Nat.le_of_eq hu2)) tw⟩
  · show zR (zwR (zwR s1 9 0 (zR s1 9 1)) 9 1 (zR s1 9 0)) 7 k = _
    rw [zR_ne (by omega), zR_ne (by omega), rr]
end SHIFTD
