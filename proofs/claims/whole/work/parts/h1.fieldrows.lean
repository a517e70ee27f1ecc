/-! THE CLASS LAYS THE ORDERS OF A FIELD -/
def hsK (kd : Nat) : Nat := if kd = 7 then 1 else if kd = 2 ∨ (4 ≤ kd ∧ kd ≤ 6) then 3 else 4
theorem hsK_pos {kd : Nat} : 0 < hsK kd := by
  unfold hsK
  split
  · omega
  · split
    · omega
    · omega
/-- the class's field as the numbers q of a field that is told -/
def CFq (M : im_M) (q : Nat → Int32) (kd n : Nat) : Prop := im_i M 23 2 = nI kd ∧ kd ≤ 8 ∧ im_i M 23 8 = nI n ∧ n ≤ 200 ∧ (∀ k, k < hsK kd → im_i M 24 k = q (1 + k)) ∧ ∀ k, k < 4 → im_i M 18 k = q (11 + k)
def rw1 (q : Nat → Int32) (g : Nat) (w ct st wh : Int32) (o : OD) : Nat → Int32 := rwC o.1.1 (sxI (q 5) o.1.2.2.1 o.1.2.2.2 o.1.2.1) (syI (q 6) o.1.2.2.1 o.1.2.2.2 o.1.2.1) o.1.2.1 w o.2.2.1 o.2.2.2.1 o.2.2.2.2 (nI o.2.1.2) (nI o.2.1.1) (nI g) ct st wh
def RWL (M R : im_M) (g : Nat) (V : List (Nat → Int32)) : Prop := fr (2 ^ 21) [] M R ∧ (∀ p, p < 14 * g → im_i R 21 p = im_i M 21 p) ∧ ∀ t v, V[t]? = some v → ∀ u, u < 14 → im_i R 21 (14 * (g + t) + u) = v u
theorem RWL_0 {M : im_M} {g : Nat} : RWL M M g [] := ⟨fr_refl, fun _ _ => rfl, fun t v h => by simp at h⟩
theorem RWL_s {M R R' : im_M} {g : Nat} {V : List (Nat → Int32)} {v : Nat → Int32} (h : RWL M R g V) (h2 : RWK R R' (g + V.length) v) : RWL M R' g (V ++ [v]) := by
  refine ⟨fr_tr h2.1 h.1, fun p hp => ?_, fun t w ht u hu => ?_⟩
  · rw [h2.2, if_neg (by omega)]
    exact h.2.1 p hp
  · by_cases c : t < V.length
    · rw [List.getElem?_append_left c] at ht
      rw [h2.2, if_neg (by omega)]
      exact h.2.2 t w ht u hu
    · rw [List.getElem?_append_right (by omega)] at ht
      by_cases e : t = V.length
      · subst e
        rw [Nat.sub_self] at ht
        have ht : some v = some w := ht
        cases ht
        rw [h2.2, if_pos (by omega), Nat.add_sub_cancel_left]
      · rw [List.getElem?_eq_none (by show 1 ≤ t - V.length; omega)] at ht
        cases ht
theorem sx0 {x r : Int32} : sxI x 0 0 r = x := by
  unfold sxI
  repeat' split
  all_goals first | exact Int32.add_zero _ | exact Int32.sub_zero _
theorem sy0 {x r : Int32} : syI x 0 0 r = x := by
  unfold syI
  repeat' split
  all_goals first | exact Int32.add_zero _ | exact Int32.sub_zero _
/-- the first order, but for blocks -/
def od1 (q : Nat → Int32) (kd n : Nat) : OD := ((nI kd, (if kd = 1 ∨ kd = 2 then q 3 else if kd = 0 ∨ kd = 3 then q 4 else 0), 0, 0), (0, if kd ≤ 3 then n else if kd = 7 then n / 2 else 0), (q 1, (if kd = 7 then 0 else q 2), (if kd = 1 ∨ kd = 2 ∨ kd = 7 then 0 else q 3)))
def od2 (q : Nat → Int32) (n : Nat) : OD := ((0, q 3, 0, q 2 + 3), (0, n), (q 11, q 12, q 13))
theorem ods_1 {q : Nat → Int32} {kd n : Nat} {L : List (Nat × Nat)} (h : kd ≤ 7) : odsM q kd n L = od1 q kd n :: if kd = 1 ∧ q 4 = 1 then [od2 q n] else [] := by
  have : kd = 0 ∨ kd = 1 ∨ kd = 2 ∨ kd = 3 ∨ kd = 4 ∨ kd = 5 ∨ kd = 6 ∨ kd = 7 := by omega
  rcases this with rfl | rfl | rfl | rfl | rfl | rfl | rfl | rfl
  · rfl
  · by_cases c : q 4 = 1
    · unfold odsM
      rw [if_neg (by decide), if_pos rfl, if_pos c, if_pos ⟨rfl, c⟩]
      rfl
    · unfold odsM
      rw [if_neg (by decide), if_pos rfl, if_neg c, if_neg (fun z => c z.2)]
      rfl
  · rfl
  · rfl
  · rfl
  · rfl
  · rfl
  · rfl
theorem s_layOthers {M : im_M} {q : Nat → Int32} {kd n g : Nat} {L : List (Nat × Nat)} (hC : CFq M q kd n) (hk : kd ≤ 7) (hb : kd = 1 → q 4 = 0 ∨ q 4 = 1) (hg : im_i M 19 3 = nI g) (hg2 : g ≤ 120) : ed (f_HField_layOthers (q 5) (q 6) M) (fun r => r.1 = nI (odsM q kd n L).length ∧ RWL M r.2 g ((odsM q kd n L).map (rw1 q g 0 0 0 0))) := by
  obtain ⟨h2, _, h8, hn, h24, h18⟩ := hC
  have kk : ∀ z : Nat, z < 100 → (nI kd = nI z) = (kd = z) := fun z hz => nIe (by omega) (by omega)
  have k0 : (nI kd = 0) = (kd = 0) := kk 0 (by omega)
  have k1 : (nI kd = 1) = (kd = 1) := kk 1 (by omega)
  have k2 : (nI kd = 2) = (kd = 2) := kk 2 (by omega)
  have k3 : (nI kd = 3) = (kd = 3) := kk 3 (by omega)
  have k7 : (nI kd = 7) = (kd = 7) := kk 7 (by omega)
  have l3 : ((3 : Int32) < nI kd) = (3 < kd) := nIlt (x := 3) (by omega) (by omega)
  have c0 : Int32.toNatClampNeg 0 = 0 := rfl
  have c1 : Int32.toNatClampNeg 1 = 1 := rfl
  have c2 : Int32.toNatClampNeg 2 = 2 := rfl
  have c3 : Int32.toNatClampNeg 3 = 3 := rfl
  have g0 : ∀ {Z : Type} (z : Option Z), gd (inb 0 4) z = z := fun z => gd_pos (by decide)
  have g1 : ∀ {Z : Type} (z : Option Z), gd (inb 1 4) z = z := fun z => gd_pos (by decide)
  have g2 : ∀ {Z : Type} (z : Option Z), gd (inb 2 4) z = z := fun z => gd_pos (by decide)
  have g3 : ∀ {Z : Type} (z : Option Z), gd (inb 3 4) z = z := fun z => gd_pos (by decide)
  have ob : (((if kd = 1 then 1 else (if ¬ kd = 2 then 0 else 1)) : Int32) = 0) = ¬ (kd = 1 ∨ kd = 2) := by
    apply propext
    by_cases a : kd = 1
    · simp [a]
    · by_cases b : kd = 2
      · simp [b]
      · simp [a, b]
  have kds : kd = 0 ∨ kd = 1 ∨ kd = 2 ∨ kd = 3 ∨ kd = 4 ∨ kd = 5 ∨ kd = 6 ∨ kd = 7 := by omega
  rw [ods_1 (L := L) hk]
  unfold f_HField_layOthers
  simp only [h2, k0, k1, k2, k3, ob, c0, c1, c2, c3, g0, g1, g2, g3, jn0, hg]
  have e1 : (if ¬ (kd = 1 ∨ kd = 2) then (if kd = 0 then some (im_i M 24 3) else if ¬ kd = 3 then some (0 : Int32) else some (im_i M 24 3)) else some (im_i M 24 2)) = some (od1 q kd n).1.2.1 := by
    rcases kds with rfl | rfl | rfl | rfl | rfl | rfl | rfl | rfl
    · exact congrArg some (h24 3 (by decide))
    · exact congrArg some (h24 2 (by decide))
    · exact congrArg some (h24 2 (by decide))
    · exact congrArg some (h24 3 (by decide))
    · rfl
    · rfl
    · rfl
    · rfl
  rw [e1, bd1_s]
  apply bd1_mk
  refine ed_mono (s_lay (by omega)) ?_
  intro R1 w1
  have a24 : im_i R1 24 = im_i M 24 := fr_c w1.1 24 (by decide) (by decide)
  have a2 : im_i R1 23 2 = nI kd := (w1.1.1 23 2 (by decide) (by decide)).trans h2
  rw [a24, a2]
  simp only [k7]
  have e2 : (if ¬ kd = 7 then some (im_i M 24 1) else some 0) = some (od1 q kd n).2.2.2.1 := by
    rcases kds with rfl | rfl | rfl | rfl | rfl | rfl | rfl | rfl
    all_goals first | rfl | exact congrArg some (h24 1 (by decide))
  have e3 : (if ¬ ¬ (kd = 1 ∨ kd = 2) then some 0 else if ¬ kd = 7 then some (im_i M 24 2) else some (0 : Int32)) = some (od1 q kd n).2.2.2.2 := by
    rcases kds with rfl | rfl | rfl | rfl | rfl | rfl | rfl | rfl
    all_goals first | rfl | exact congrArg some (h24 2 (by decide))
  have e4 : im_i M 24 0 = q 1 := h24 0 hsK_pos
  rw [e2, bd1_s, e3, bd1_s, e4]
  apply bd1_mk
  refine ed_mono (s_number (by omega) w1) ?_
  intro R2 w2
  have b2 : im_i R2 23 2 = nI kd := (w2.1.1 23 2 (by decide) (by decide)).trans h2
  have b8 : im_i R2 23 8 = nI n := (w2.1.1 23 8 (by decide) (by decide)).trans h8
  rw [b2, b8]
  simp only [l3, k7]
  have en : nI n / 2 = nI (n / 2) := by rw [show (2 : Int32) = nI 2 from rfl, nI_div (by omega) (by omega) (by omega)]
  have e5 : (if 3 < kd then (if ¬ kd = 7 then some 0 else some (nI n / 2)) else some (nI n)) = some (nI (od1 q kd n).2.1.2) := by
    rw [en]
    rcases kds with rfl | rfl | rfl | rfl | rfl | rfl | rfl | rfl <;> rfl
  rw [e5, bd1_s]
  apply bd1_mk
  refine ed_mono (s_slice (by omega) w2) ?_
  intro R3 w3
  have d2 : im_i R3 23 2 = nI kd := (w3.1.1 23 2 (by decide) (by decide)).trans h2
  have d24 : im_i R3 24 = im_i M 24 := fr_c w3.1 24 (by decide) (by decide)
  rw [d2, d24]
  simp only [k1]
  have wA : RWL M R3 g [rw1 q g 0 0 0 0 (od1 q kd n)] := by
    refine RWL_s (V := []) RWL_0 ?_
    show RWK M R3 (g + 0) _
    rw [Nat.add_zero]
    unfold rw1
    rw [show (od1 q kd n).1.2.2.1 = 0 from rfl, show (od1 q kd n).1.2.2.2 = 0 from rfl, sx0, sy0]
    exact w3
  by_cases m1 : kd = 1
  · subst m1
    have e6 : im_i M 24 3 = q 4 := h24 3 (by decide)
    rw [if_neg (fun z => z rfl), e6]
    rcases hb rfl with z4 | z4
    · rw [if_neg (fun y => y z4)]
      refine ed_mk ⟨?_, ?_⟩
      · rw [if_neg (fun y => by rw [z4] at y; exact absurd y.2 (by decide))]
        rfl
      · rw [if_neg (fun y => by rw [z4] at y; exact absurd y.2 (by decide))]
        exact wA
    · rw [if_pos (by rw [z4]; decide), if_pos ⟨rfl, z4⟩]
      have eg : nI g + 1 = nI (g + 1) := nI_add g 1
      rw [eg]
      apply bd1_mk
      refine ed_mono (s_lay (k := g + 1) (by omega)) ?_
      intro R4 w4
      have f4 := fr_tr w4.1 w3.1
      have x24 : im_i R4 24 = im_i M 24 := fr_c f4 24 (by decide) (by decide)
      rw [x24, h24 1 (by decide)]
      apply bd1_mk
      refine ed_mono (s_move (by omega) w4) ?_
      intro R5 w5
      have f5 := fr_tr w5.1 w3.1
      have x18 : im_i R5 18 = im_i M 18 := fr_c f5 18 (by decide) (by decide)
      rw [x18, h18 0 (by omega), h18 1 (by omega), h18 2 (by omega)]
      apply bd1_mk
      refine ed_mono (s_number (by omega) w5) ?_
      intro R6 w6
      have f6 := fr_tr w6.1 w3.1
      have y8 : im_i R6 23 8 = nI n := (f6.1 23 8 (by decide) (by decide)).trans h8
      rw [y8]
      apply bd1_mk
      refine ed_mono (s_slice (by omega) w6) ?_
      intro R7 w7
      exact ed_mk ⟨rfl, RWL_s wA w7⟩
  · rw [if_pos m1, if_neg (fun z => m1 z.1)]
    exact ed_mk ⟨rfl, wA⟩
