/-! THE CONSTRUCTOR of the class, by program -/
section ZCALL
variable {p : Program} {l : Launch} {e : Env} {R : Room} {s : State} {m : MethodId} {args : Array Value} {below : List Frame} {meth : Method} {c : Code} {H : Heap} {locs : List Loc} {cells slots : Nat} {Q : State → Prop}
variable {pc : Nat} {ls : Array Slot} {rest st0 : List Value} {D : va_G} {A : Nat → Prop} {H0 : Heap}
theorem zc_call {x : Nat × va_E} {q : Nat} {e0 : va_E} {pl : va_W} {post : (Nat → Nat) → Prop} {Wd : (Nat → Nat) → va_W} {a : Array Value} {mc ms : Nat} (hr : va_Run p l e R s m args below meth c H locs cells slots mc ms (F0 m pc ls st0) rest (va_Qv post (fun ad t => va_P D vwCl (Wd ad) t.heap ∧ va_D (va_A [(q, e0)] H.size) (Wd ad)) (va_A [(q, e0)] H.size) a) (va_A [(q, e0)] H.size)) (hP : va_P D vwCl ([x, (q, e0)] ++ pl) H) (hD : va_D A ([x, (q, e0)] ++ pl)) (hS : va_S A H0 H locs) (hA : ∀ q, H0.size ≤ q → A q)
    (kk : ∀ (ad : Nat → Nat) (H1 : Heap) (locs1 : List Loc), post ad → va_P D vwCl (x :: (Wd ad ++ pl)) H1 → va_D A (x :: (Wd ad ++ pl)) → va_S A H0 H1 locs1 → W p l e R s m args below meth c H1 locs1 (cells + mc) (slots + ms) Q (F0 m (pc + 3) ls rest)) : W p l e R s m args below meth c H locs cells slots Q (F0 m pc ls st0) := by
  have hF : ∀ z, va_A [(q, e0)] H.size z → A z := fun z h => by
    rcases h with ⟨k, e1, hk⟩ | h
    · have h0 : k < 1 := (List.getElem?_eq_some_iff.mp hk).1
      rw [show k = 0 by omega] at hk
      cases hk
      exact hD.2 1 (q, e0) rfl
    · exact hA z (Nat.le_trans hS.1 h)
  refine va_callv hr hS (fun z _ h => hF z h) hF (fun ad t H1 locs1 ht hvm hp hB hz1 hk1 hS1 => ?_)
  obtain ⟨hP1, hD1⟩ := hB
  rw [ht] at hP1
  obtain ⟨hP2, hD2⟩ := va_joinQ (X := [x, (q, e0)]) (cx := [(q, e0)]) (wr := [x]) (w1 := Wd ad) (pl := pl) hP hD [1] [0] rfl rfl (by decide) (by decide) hk1 hF hP1 hD1
  have e1 : ([x] ++ Wd ad) ++ pl = x :: (Wd ad ++ pl) := by rw [List.append_assoc]; rfl
  rw [e1] at hP2 hD2
  exact kk ad H1 locs1 hp hP2 hD2 hS1
end ZCALL
theorem zW_ofP {D : va_G} {g : zG} {w : Nat} {ad : Nat → Nat} {σ : zSt} {js : List Nat} {H : Heap} (hall : ∀ k, k < zN w → k ∈ js) (h : va_P D vwCl (zWs g w ad σ js) H) : va_P D vwCl (zW g w ad σ) H := by
  intro k q hk
  obtain ⟨h1, rfl⟩ := zW_in hk
  obtain ⟨i, hi⟩ := List.getElem?_of_mem (hall k h1)
  refine h i _ ?_
  unfold zWs
  rw [List.getElem?_map, hi]
  rfl
theorem zW_ofD {A : Nat → Prop} {g : zG} {w : Nat} {ad : Nat → Nat} {σ : zSt} {js : List Nat} (hall : ∀ k, k < zN w → k ∈ js) (h : va_D A (zWs g w ad σ js)) : va_D A (zW g w ad σ) := by
  have key : ∀ k, k < zN w → ∃ i, js[i]? = some k ∧ (zWs g w ad σ js)[i]? = some (ad k, zcell g w ad σ k) := fun k hk => by
    obtain ⟨i, hi⟩ := List.getElem?_of_mem (hall k hk)
    refine ⟨i, hi, ?_⟩
    unfold zWs
    rw [List.getElem?_map, hi]
    rfl
  refine ⟨fun i j x y hi hj e => ?_, fun k q hk => ?_⟩
  · obtain ⟨h1, rfl⟩ := zW_in hi
    obtain ⟨h2, rfl⟩ := zW_in hj
    obtain ⟨a, a1, a2⟩ := key i h1
    obtain ⟨b, b1, b2⟩ := key j h2
    have := h.1 a b _ _ a2 b2 e
    subst this
    exact Option.some.inj (a1.symm.trans b1)
  · obtain ⟨h1, rfl⟩ := zW_in hk
    obtain ⟨a, a1, a2⟩ := key k h1
    exact h.2 a _ a2
/-- which cells a cell names -/
def zdn (j : Nat) : List Nat := if j < 11 then ((zft 0 j).mapIdx (fun k d => if d = 0 then [] else if d = 1 then [] else if d = 2 then [zR zS0 j k] else [d - 3])).flatten else if zak 0 j = 2 then (List.range (zlen 0 j)).map (fun i => j + 1 + i) else []
theorem zcell_congr {g : zG} {ad ad' : Nat → Nat} {j : Nat} (hj : j < 11 ∨ zak 0 j = 0 ∨ zak 0 j = 1 ∨ zak 0 j = 2) (h : ∀ r ∈ zdn j, ad r = ad' r) : zcell g 0 ad zS0 j = zcell g 0 ad' zS0 j := by
  by_cases h11 : j < 11
  · rw [zcell_ob (show j < znO 0 from h11), zcell_ob (show j < znO 0 from h11)]
    have e : zfs 0 ad zS0 j = zfs 0 ad' zS0 j := by
      unfold zfs
      apply List.ext_getElem?
      intro k
      rw [List.getElem?_mapIdx, List.getElem?_mapIdx]
      cases hk : (zft 0 j)[k]? with
      | none => rfl
      | some d =>
        have hm : ∀ r, r ∈ (if d = 0 then [] else if d = 1 then [] else if d = 2 then [zR zS0 j k] else [d - 3] : List Nat) → ad r = ad' r := fun r hr => h r (by
          unfold zdn
          rw [if_pos h11]
          refine List.mem_flatten.mpr ⟨_, List.mem_of_getElem? (i := k) ?_, hr⟩
          rw [List.getElem?_mapIdx, hk]
          rfl)
        show some (zfv ad zS0 j k d) = some (zfv ad' zS0 j k d)
        congr 1
        unfold zfv
        by_cases d0 : d = 0
        · rw [if_pos d0, if_pos d0]
        by_cases d1 : d = 1
        · rw [if_neg d0, if_neg d0, if_pos d1, if_pos d1]
        rw [if_neg d0, if_neg d0, if_neg d1, if_neg d1]
        rw [if_neg d0, if_neg d1] at hm
        by_cases d2 : d = 2
        · rw [if_pos d2] at hm
          rw [if_pos d2, if_pos d2, hm _ (List.mem_singleton.mpr rfl)]
        · rw [if_neg d2] at hm
          rw [if_neg d2, if_neg d2, hm _ (List.mem_singleton.mpr rfl)]
    rw [e]
  · have hn : znO 0 ≤ j := by show 11 ≤ j; omega
    rcases hj with hj | hj | hj | hj
    · exact absurd hj h11
    · rw [zcell_I hn hj, zcell_I hn hj]
    · rw [zcell_J hn hj, zcell_J hn hj]
    · rw [zcell_A hn hj, zcell_A hn hj]
      have e : (fun i => if i < zlen 0 j then some (ad (j + 1 + i)) else none) = (fun i => if i < zlen 0 j then some (ad' (j + 1 + i)) else none) := by
        funext i
        by_cases hi : i < zlen 0 j
        · rw [if_pos hi, if_pos hi, h (j + 1 + i) (by unfold zdn; rw [if_neg h11, if_pos hj]; exact List.mem_map.mpr ⟨i, List.mem_range.mpr hi, rfl⟩)]
        · rw [if_neg hi, if_neg hi]
      rw [e]
def zown (j : Nat) : Nat := ([0, 1, 2, 3, 4, 5, 6, 7, 8, 9, 10, 1, 1, 1, 1, 1, 1, 1, 2, 2, 2, 2, 2, 2, 2, 2, 2, 2, 2, 2, 2, 2, 3, 3, 3, 3, 3, 3, 3, 3, 3, 3, 3, 3, 3, 3, 4, 4, 5, 5, 5, 5, 5, 5, 5, 6, 6, 6, 6, 6, 6, 6, 6, 6, 6, 6, 6, 6, 6, 7, 7, 7, 8, 8, 8, 8, 8, 8, 8, 8, 9, 9] : List Nat).getD j 0
def zadd (h0 : Nat) (f : Nat → Nat → Nat) : Nat → Nat := fun j => if j = 0 then h0 else f (zown j) j
theorem zfrag {g : zG} (h0 : Nat) (f : Nat → Nat → Nat) (i : Nat) (js : List Nat) (hc : ∀ j ∈ js, (j < 11 ∨ zak 0 j = 0 ∨ zak 0 j = 1 ∨ zak 0 j = 2) ∧ ∀ r ∈ j :: zdn j, r ≠ 0 ∧ (zown r = i ∨ (i = 6 ∧ (r = 3 ∨ r = 5)))) (h3 : f 6 3 = f 3 3) (h5 : f 6 5 = f 5 5) : zWs g 0 (f i) zS0 js = zWs g 0 (zadd h0 f) zS0 js := by
  have ag : ∀ r, r ≠ 0 ∧ (zown r = i ∨ (i = 6 ∧ (r = 3 ∨ r = 5))) → f i r = zadd h0 f r := fun r ⟨r0, hr⟩ => by
    unfold zadd
    rw [if_neg r0]
    rcases hr with hr | ⟨rfl, rfl | rfl⟩
    · rw [hr]
    · exact h3
    · exact h5
  unfold zWs
  refine List.map_congr_left (fun j hj => ?_)
  obtain ⟨h1, h2⟩ := hc j hj
  rw [ag j (h2 j List.mem_cons_self), zcell_congr h1 (fun r hr => ag r (h2 r (List.mem_cons_of_mem _ hr)))]
def jall : List Nat := 0 :: (jsX0 ++ (jsX7 ++ (jsX4 ++ (jsX1 ++ (jsX3 ++ (jsX9 ++ (jsX2 ++ (jsX8 ++ (jsX5 ++ (jsX6 ++ []))))))))))
theorem jall_all : ∀ k, k < zN 0 → k ∈ jall := by decide +kernel
theorem zfc_X6 : ∀ j ∈ jsX6, (j < 11 ∨ zak 0 j = 0 ∨ zak 0 j = 1 ∨ zak 0 j = 2) ∧ ∀ r ∈ j :: zdn j, r ≠ 0 ∧ (zown r = 1 ∨ (1 = 6 ∧ (r = 3 ∨ r = 5))) := by decide +kernel
theorem zfc_X5 : ∀ j ∈ jsX5, (j < 11 ∨ zak 0 j = 0 ∨ zak 0 j = 1 ∨ zak 0 j = 2) ∧ ∀ r ∈ j :: zdn j, r ≠ 0 ∧ (zown r = 2 ∨ (2 = 6 ∧ (r = 3 ∨ r = 5))) := by decide +kernel
theorem zfc_X8 : ∀ j ∈ jsX8, (j < 11 ∨ zak 0 j = 0 ∨ zak 0 j = 1 ∨ zak 0 j = 2) ∧ ∀ r ∈ j :: zdn j, r ≠ 0 ∧ (zown r = 3 ∨ (3 = 6 ∧ (r = 3 ∨ r = 5))) := by decide +kernel
theorem zfc_X2 : ∀ j ∈ jsX2, (j < 11 ∨ zak 0 j = 0 ∨ zak 0 j = 1 ∨ zak 0 j = 2) ∧ ∀ r ∈ j :: zdn j, r ≠ 0 ∧ (zown r = 4 ∨ (4 = 6 ∧ (r = 3 ∨ r = 5))) := by decide +kernel
theorem zfc_X9 : ∀ j ∈ jsX9, (j < 11 ∨ zak 0 j = 0 ∨ zak 0 j = 1 ∨ zak 0 j = 2) ∧ ∀ r ∈ j :: zdn j, r ≠ 0 ∧ (zown r = 5 ∨ (5 = 6 ∧ (r = 3 ∨ r = 5))) := by decide +kernel
theorem zfc_X3 : ∀ j ∈ jsX3, (j < 11 ∨ zak 0 j = 0 ∨ zak 0 j = 1 ∨ zak 0 j = 2) ∧ ∀ r ∈ j :: zdn j, r ≠ 0 ∧ (zown r = 6 ∨ (6 = 6 ∧ (r = 3 ∨ r = 5))) := by decide +kernel
theorem zfc_X1 : ∀ j ∈ jsX1, (j < 11 ∨ zak 0 j = 0 ∨ zak 0 j = 1 ∨ zak 0 j = 2) ∧ ∀ r ∈ j :: zdn j, r ≠ 0 ∧ (zown r = 7 ∨ (7 = 6 ∧ (r = 3 ∨ r = 5))) := by decide +kernel
theorem zfc_X4 : ∀ j ∈ jsX4, (j < 11 ∨ zak 0 j = 0 ∨ zak 0 j = 1 ∨ zak 0 j = 2) ∧ ∀ r ∈ j :: zdn j, r ≠ 0 ∧ (zown r = 8 ∨ (8 = 6 ∧ (r = 3 ∨ r = 5))) := by decide +kernel
theorem zfc_X7 : ∀ j ∈ jsX7, (j < 11 ∨ zak 0 j = 0 ∨ zak 0 j = 1 ∨ zak 0 j = 2) ∧ ∀ r ∈ j :: zdn j, r ≠ 0 ∧ (zown r = 9 ∨ (9 = 6 ∧ (r = 3 ∨ r = 5))) := by decide +kernel
theorem zfc_X0 : ∀ j ∈ jsX0, (j < 11 ∨ zak 0 j = 0 ∨ zak 0 j = 1 ∨ zak 0 j = 2) ∧ ∀ r ∈ j :: zdn j, r ≠ 0 ∧ (zown r = 10 ∨ (10 = 6 ∧ (r = 3 ∨ r = 5))) := by decide +kernel
theorem zhead {g : zG} (h0 : Nat) (f : Nat → Nat → Nat) : ((h0, .inr (10, [.ref (f 1 1), .ref (f 2 2), .ref (f 3 3), .ref (f 4 4), .ref (f 5 5), .ref (f 6 6), .ref (f 7 7), .ref (f 8 8), .ref (f 9 9), .ref (f 10 10), .int 0])) : Nat × va_E) = (zadd h0 f 0, zcell g 0 (zadd h0 f) zS0 0) := by
  rw [zcell_ob (by decide)]
  rfl
theorem zworld {g : zG} (h0 : Nat) (f : Nat → Nat → Nat) (h3 : f 6 3 = f 3 3) (h5 : f 6 5 = f 5 5) : ((h0, .inr (10, [.ref (f 1 1), .ref (f 2 2), .ref (f 3 3), .ref (f 4 4), .ref (f 5 5), .ref (f 6 6), .ref (f 7 7), .ref (f 8 8), .ref (f 9 9), .ref (f 10 10), .int 0])) :: (zWs g 0 (f 10) zS0 jsX0 ++ (zWs g 0 (f 9) zS0 jsX7 ++ (zWs g 0 (f 8) zS0 jsX4 ++ (zWs g 0 (f 7) zS0 jsX1 ++ (zWs g 0 (f 6) zS0 jsX3 ++ (zWs g 0 (f 5) zS0 jsX9 ++ (zWs g 0 (f 4) zS0 jsX2 ++ (zWs g 0 (f 3) zS0 jsX8 ++ (zWs g 0 (f 2) zS0 jsX5 ++ (zWs g 0 (f 1) zS0 jsX6 ++ [])))))))))) : va_W) = zWs g 0 (zadd h0 f) zS0 jall := by
  rw [zhead (g := g) h0 f, zfrag h0 f 10 jsX0 zfc_X0 h3 h5, zfrag h0 f 9 jsX7 zfc_X7 h3 h5, zfrag h0 f 8 jsX4 zfc_X4 h3 h5, zfrag h0 f 7 jsX1 zfc_X1 h3 h5, zfrag h0 f 6 jsX3 zfc_X3 h3 h5, zfrag h0 f 5 jsX9 zfc_X9 h3 h5, zfrag h0 f 4 jsX2 zfc_X2 h3 h5, zfrag h0 f 3 jsX8 zfc_X8 h3 h5, zfrag h0 f 2 jsX5 zfc_X5 h3 h5, zfrag h0 f 1 jsX6 zfc_X6 h3 h5]
  unfold jall zWs
  simp only [List.map_cons, List.map_append, List.map_nil]
theorem zjoinC {D : va_G} {g : zG} {A : Nat → Prop} {H : Heap} (h0 : Nat) (f : Nat → Nat → Nat) (h3 : f 6 3 = f 3 3) (h5 : f 6 5 = f 5 5) (hP : va_P D vwCl ((h0, .inr (10, [.ref (f 1 1), .ref (f 2 2), .ref (f 3 3), .ref (f 4 4), .ref (f 5 5), .ref (f 6 6), .ref (f 7 7), .ref (f 8 8), .ref (f 9 9), .ref (f 10 10), .int 0])) :: (zWs g 0 (f 10) zS0 jsX0 ++ (zWs g 0 (f 9) zS0 jsX7 ++ (zWs g 0 (f 8) zS0 jsX4 ++ (zWs g 0 (f 7) zS0 jsX1 ++ (zWs g 0 (f 6) zS0 jsX3 ++ (zWs g 0 (f 5) zS0 jsX9 ++ (zWs g 0 (f 4) zS0 jsX2 ++ (zWs g 0 (f 3) zS0 jsX8 ++ (zWs g 0 (f 2) zS0 jsX5 ++ (zWs g 0 (f 1) zS0 jsX6 ++ []))))))))))) H) (hD : va_D A ((h0, .inr (10, [.ref (f 1 1), .ref (f 2 2), .ref (f 3 3), .ref (f 4 4), .ref (f 5 5), .ref (f 6 6), .ref (f 7 7), .ref (f 8 8), .ref (f 9 9), .ref (f 10 10), .int 0])) :: (zWs g 0 (f 10) zS0 jsX0 ++ (zWs g 0 (f 9) zS0 jsX7 ++ (zWs g 0 (f 8) zS0 jsX4 ++ (zWs g 0 (f 7) zS0 jsX1 ++ (zWs g 0 (f 6) zS0 jsX3 ++ (zWs g 0 (f 5) zS0 jsX9 ++ (zWs g 0 (f 4) zS0 jsX2 ++ (zWs g 0 (f 3) zS0 jsX8 ++ (zWs g 0 (f 2) zS0 jsX5 ++ (zWs g 0 (f 1) zS0 jsX6 ++ [])))))))))))) : va_P D vwCl (zW g 0 (zadd h0 f) zS0) H ∧ va_D A (zW g 0 (zadd h0 f) zS0) := by
  rw [zworld h0 f h3 h5] at hP hD
  exact ⟨zW_ofP jall_all hP, zW_ofD jall_all hD⟩
