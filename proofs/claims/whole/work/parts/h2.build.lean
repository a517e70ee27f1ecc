/-! THE CLASS LAYS LINES, AND BUILDS A FIELD -/
theorem s_layLines {M : im_M} {q : Nat → Int32} {n g : Nat} {L : List (Nat × Nat)} (hC : CFq M q 8 n) (hL : LN M L) (hl : L.length ≤ 300) (hg : im_i M 19 3 = nI g) (hg2 : g ≤ 120) : ed (f_HField_layLines (q 5) (q 6) M) (fun r => r.1 = nI L.length ∧ RWL M r.2 g ((blkO q 0 (L.take 20)).map (rw1 q g 0 0 0 0))) := by
  obtain ⟨h2, _, h8, hn, h24, h18⟩ := hC
  have q1 : im_i M 24 0 = q 1 := h24 0 (by decide)
  have q2 : im_i M 24 1 = q 2 := h24 1 (by decide)
  have q3 : im_i M 24 2 = q 3 := h24 2 (by decide)
  have q4 : im_i M 24 3 = q 4 := h24 3 (by decide)
  have c0 : Int32.toNatClampNeg 0 = 0 := rfl
  have c1 : Int32.toNatClampNeg 1 = 1 := rfl
  have c2 : Int32.toNatClampNeg 2 = 2 := rfl
  have c3 : Int32.toNatClampNeg 3 = 3 := rfl
  have g0 : ∀ {Z : Type} (z : Option Z), gd (inb 0 4) z = z := fun z => gd_pos (by decide)
  have g1 : ∀ {Z : Type} (z : Option Z), gd (inb 1 4) z = z := fun z => gd_pos (by decide)
  have g2 : ∀ {Z : Type} (z : Option Z), gd (inb 2 4) z = z := fun z => gd_pos (by decide)
  have g3 : ∀ {Z : Type} (z : Option Z), gd (inb 3 4) z = z := fun z => gd_pos (by decide)
  have bl_l : ∀ (T : List (Nat × Nat)) (m : Nat), (blkO q m T).length = T.length := by
    intro T
    induction T with
    | nil => intro m; rfl
    | cons y T ih => intro m; show (blkO q (m + 1) T).length + 1 = T.length + 1; rw [ih]
  unfold f_HField_layLines
  apply bd1_mk
  refine ed_mono (lp_inv (fun k (s : Int32 × im_M) => ∃ i : Nat, i + k = 20 ∧ i ≤ L.length ∧ s.1 = nI i ∧ RWL M s.2 g ((blkO q 0 (L.take i)).map (rw1 q g 0 0 0 0))) (Q := fun R => RWL M R g ((blkO q 0 (L.take 20)).map (rw1 q g 0 0 0 0))) ?_ (k := 20) ⟨0, by omega, by omega, rfl, RWL_0⟩) (fun R h => ed_mk ⟨(h.1.1 23 9 (by decide) (by decide)).trans hL.1, h⟩)
  rintro k ⟨x4, M5⟩ ⟨i, hi, hi2, e1, w⟩
  replace e1 : x4 = nI i := e1
  replace w : RWL M M5 g ((blkO q 0 (L.take i)).map (rw1 q g 0 0 0 0)) := w
  subst e1
  have f := w.1
  have a9 : im_i M5 23 9 = nI L.length := (f.1 23 9 (by decide) (by decide)).trans hL.1
  have a19 : im_i M5 19 3 = nI g := (f.1 19 3 (by decide) (by decide)).trans hg
  have a24 : im_i M5 24 = im_i M 24 := fr_c f 24 (by decide) (by decide)
  have a18 : im_i M5 18 = im_i M 18 := fr_c f 18 (by decide) (by decide)
  have a27 : im_i M5 27 = im_i M 27 := fr_c f 27 (by decide) (by decide)
  show ed (f_HField_layLines_L3 (q 5) (q 6) (nI i) M5) _
  unfold f_HField_layLines_L3
  have t20 : ((20 : Int32) ≤ nI i) = (20 ≤ i) := nIl (x := 20) (by omega) (by omega)
  simp only [a9, t20, c0, c1, c2, c3, g0, g1, g2, g3, a24, a18, a27, a19]
  rw [if_nIl (by omega) (by omega)]
  by_cases c : L.length ≤ i
  · rw [if_pos c]
    have e : L.take i = L.take 20 := by rw [List.take_of_length_le c, List.take_of_length_le (by omega)]
    rw [e] at w
    exact lpo_r w
  · rw [if_neg c]
    by_cases c20 : 20 ≤ i
    · rw [if_pos c20]
      obtain rfl : i = 20 := by omega
      exact lpo_r w
    · obtain ⟨x, hx⟩ : ∃ x, L[i]? = some x := ⟨L[i]'(by omega), List.getElem?_eq_getElem (by omega)⟩
      obtain ⟨l26, l27⟩ := hL.2 i x (by omega) hx
      obtain ⟨T, _, t2⟩ := blkO_at (q := q) (m := 0) hx
      rw [Nat.zero_add] at t2
      have gi : ∀ {Z : Type} (z : Option Z), gd (inb (nI i) 20) z = z := fun z => gd_pos (by rw [inb_nI (by omega)]; omega)
      have ci : Int32.toNatClampNeg (nI i) = i := nI_clamp (by omega)
      rw [if_neg c20]
      simp only [gi, ci, q1, q3, l27]
      have es : (if ¬ q 3 = 0 then (if ¬ q 3 = 1 then some ((q 1 - nI x.2) / 2) else some (q 1 - nI x.2)) else some (0 : Int32)) = some (if ¬ q 3 = 0 then (if ¬ q 3 = 1 then (q 1 - nI x.2) / 2 else q 1 - nI x.2) else 0) := by
        repeat' split
        all_goals rfl
      have em : q 4 * (if ¬ q 3 = 0 then (if ¬ q 3 = 1 then (q 1 - nI x.2) / 2 else q 1 - nI x.2) else 0) = lnS q x.2 := by
        unfold lnS
        repeat' split
        · rfl
        · rfl
        · exact Int32.mul_zero
      have len : ((blkO q 0 (L.take i)).map (rw1 q g 0 0 0 0)).length = i := by rw [List.length_map, bl_l, List.length_take]; omega
      have ek : nI g + nI i = nI (g + i) := nI_add g i
      rw [es, bd1_s, ek]
      apply bd1_mk
      refine ed_mono (s_lay (k := g + i) (by omega)) ?_
      intro R1 w1
      have f1 := fr_tr w1.1 f
      have b24 : im_i R1 24 = im_i M 24 := fr_c f1 24 (by decide) (by decide)
      rw [b24, q4, q2, em]
      apply bd1_mk
      refine ed_mono (s_move (by omega) w1) ?_
      intro R2 w2
      have f2 := fr_tr w2.1 f
      have b18 : im_i R2 18 = im_i M 18 := fr_c f2 18 (by decide) (by decide)
      rw [b18, h18 0 (by omega), h18 1 (by omega), h18 2 (by omega)]
      apply bd1_mk
      refine ed_mono (s_number (by omega) w2) ?_
      intro R3 w3
      have f3 := fr_tr w3.1 f
      have d19 : im_i R3 19 3 = nI g := (f3.1 19 3 (by decide) (by decide)).trans hg
      have d26 : im_i R3 26 = im_i M 26 := fr_c f3 26 (by decide) (by decide)
      have d27 : im_i R3 27 = im_i M 27 := fr_c f3 27 (by decide) (by decide)
      rw [d19, d26, d27, l26, l27]
      apply bd1_mk
      refine ed_mono (s_slice (by omega) w3) ?_
      intro R4 w4
      refine lpo_l (k - 1) (by omega) ⟨i + 1, by omega, by omega, nI_add i 1, ?_⟩
      show RWL M R4 g ((blkO q 0 (L.take (i + 1))).map (rw1 q g 0 0 0 0))
      rw [t2, List.map_append]
      refine RWL_s w ?_
      rw [len, h18 3 (by omega)] at *
      have := w4
      rw [Int32.mul_comm (q 2) (nI i)] at this
      exact this
theorem s_inRange {v : Int32} {M : im_M} : f_HOrders_inRange v M = some (if farI v = true then 0 else 1) := by
  unfold f_HOrders_inRange farI
  by_cases a : v < -4096
  · simp [a]
  · by_cases b : v ≤ 4096
    · have : ¬ (4096 : Int32) < v := by
        rw [Int32.le_iff_toInt_le] at b
        rw [Int32.lt_iff_toInt_lt]
        omega
      simp [a, b, this]
    · have : (4096 : Int32) < v := by
        rw [Int32.le_iff_toInt_le] at b
        rw [Int32.lt_iff_toInt_lt]
        omega
      simp [a, b, this]
/-- an order's place lies within the range -/
def nrO (q : Nat → Int32) (o : OD) : Prop := farI (sxI (q 5) o.1.2.2.1 o.1.2.2.2 o.1.2.1) = false ∧ farI (syI (q 6) o.1.2.2.1 o.1.2.2.2 o.1.2.1) = false
theorem RWK_refl {M : im_M} {k : Nat} : RWK M M k (fun u => im_i M 21 (14 * k + u)) := by
  refine ⟨fr_refl, fun p => ?_⟩
  by_cases d : 14 * k ≤ p ∧ p < 14 * k + 14
  · rw [if_pos d]
    congr 1
    omega
  · rw [if_neg d]
theorem rw1_w {q : Nat → Int32} {g : Nat} {w ct st wh : Int32} {o : OD} {u : Nat} (hu : u < 14) : (if u = 13 then wh else if u = 12 then st else if u = 11 then ct else if u = 4 then w else rw1 q g 0 0 0 0 o u) = rw1 q g w ct st wh o u := by
  unfold rw1 rwC
  have : u = 0 ∨ u = 1 ∨ u = 2 ∨ u = 3 ∨ u = 4 ∨ u = 5 ∨ u = 6 ∨ u = 7 ∨ u = 8 ∨ u = 9 ∨ u = 10 ∨ u = 11 ∨ u = 12 ∨ u = 13 := by omega
  rcases this with rfl | rfl | rfl | rfl | rfl | rfl | rfl | rfl | rfl | rfl | rfl | rfl | rfl | rfl <;> rfl
/-- rows of the draft, the first i of them finished -/
def DRi (M R : im_M) (q : Nat → Int32) (g : Nat) (w ct st wh : Int32) (ods : List OD) (i : Nat) : Prop := fr (2 ^ 21) [] M R ∧ (∀ p, p < 14 * g → im_i R 21 p = im_i M 21 p) ∧ ∀ t o, ods[t]? = some o → ∀ u, u < 14 → im_i R 21 (14 * (g + t) + u) = if t < i then rw1 q g w ct st wh o u else rw1 q g 0 0 0 0 o u
theorem s_buildLoop {M : im_M} {q : Nat → Int32} {g n : Nat} {w ct st v12 v13 : Int32} {ods : List OD} (hl : ods.length ≤ 20) (hg : im_i M 19 3 = nI g) (hg2 : g ≤ 120) (h4 : w = if im_i M 23 4 = 0 then 0 else 2) (h5 : ct = if im_i M 23 5 = 0 then 0 else 1) (h6 : im_i M 23 6 = st) (h8 : im_i M 23 8 = nI n) (h0 : DRi M M q g w ct st (nI n) ods 0) : ed (lp (uc3 (f_HField_build_L95 v12 v13 (nI ods.length))) (1, 0, M)) (fun r => fr (2 ^ 21) [] M r.2 ∧ ((r.1 = 1 ∧ DRi M r.2 q g w ct st (nI n) ods ods.length ∧ ∀ o ∈ ods, nrO q o) ∨ (r.1 = 0 ∧ ¬ ∀ o ∈ ods, nrO q o))) := by
  refine lp_inv (fun k (s : Int32 × Int32 × im_M) => (∃ i : Nat, i + k = ods.length + 1 ∧ i ≤ ods.length ∧ s.1 = 1 ∧ s.2.1 = nI i ∧ DRi M s.2.2 q g w ct st (nI n) ods i ∧ ∀ t o, t < i → ods[t]? = some o → nrO q o) ∨ (s.1 = 0 ∧ fr (2 ^ 21) [] M s.2.2 ∧ ¬ ∀ o ∈ ods, nrO q o)) ?_ (k := ods.length + 1) (Or.inl ⟨0, by omega, by omega, rfl, rfl, h0, fun t o ht => absurd ht (by omega)⟩)
  rintro k ⟨x15, x16, M17⟩ hI
  show ed (f_HField_build_L95 v12 v13 (nI ods.length) x15 x16 M17) _
  unfold f_HField_build_L95
  rcases hI with ⟨i, hk, hi, e1, e2, hD, hN⟩ | ⟨e1, hf, hno⟩
  · replace e1 : x15 = 1 := e1
    replace e2 : x16 = nI i := e2
    replace hD : DRi M M17 q g w ct st (nI n) ods i := hD
    subst e1
    subst e2
    rw [if_neg (show ¬ (1 : Int32) = 0 by decide), if_nIl (by omega) (by omega)]
    have f := hD.1
    by_cases c : ods.length ≤ i
    · rw [if_pos c]
      obtain rfl : i = ods.length := by omega
      refine lpo_r ⟨f, Or.inl ⟨rfl, hD, fun o ho => ?_⟩⟩
      obtain ⟨t, ht, e⟩ := List.mem_iff_getElem.mp ho
      exact hN t o ht (by rw [← e]; exact List.getElem?_eq_getElem ht)
    · rw [if_neg c]
      have a19 : im_i M17 19 3 = nI g := (f.1 19 3 (by decide) (by decide)).trans hg
      have a4 : im_i M17 23 4 = im_i M 23 4 := f.1 23 4 (by decide) (by decide)
      have a5 : im_i M17 23 5 = im_i M 23 5 := f.1 23 5 (by decide) (by decide)
      have a6 : im_i M17 23 6 = st := (f.1 23 6 (by decide) (by decide)).trans h6
      have a8 : im_i M17 23 8 = nI n := (f.1 23 8 (by decide) (by decide)).trans h8
      have s23 : ∀ (N : im_M) (t : Nat) (x : Int32) (j : Nat), im_i (im_setI N 21 t x) 23 j = im_i N 23 j := fun _ _ _ _ => rfl
      have ek : (nI g + nI i) * 14 = nI (14 * (g + i)) := by rw [nI_add, k14]
      have ej : ∀ j : Nat, nI (14 * (g + i)) + nI j = nI (14 * (g + i) + j) := fun j => nI_add _ j
      have j1 : nI (14 * (g + i)) + 1 = nI (14 * (g + i) + 1) := ej 1
      have j2 : nI (14 * (g + i)) + 2 = nI (14 * (g + i) + 2) := ej 2
      have j4 : nI (14 * (g + i)) + 4 = nI (14 * (g + i) + 4) := ej 4
      have j11 : nI (14 * (g + i)) + 11 = nI (14 * (g + i) + 11) := ej 11
      have j12 : nI (14 * (g + i)) + 12 = nI (14 * (g + i) + 12) := ej 12
      have j13 : nI (14 * (g + i)) + 13 = nI (14 * (g + i) + 13) := ej 13
      have kc : ∀ j, j < 14 → Int32.toNatClampNeg (nI (14 * (g + i) + j)) = 14 * (g + i) + j := fun j hj => nI_clamp (by omega)
      have gg : ∀ {Z : Type} (z : Option Z) (j : Nat), j < 14 → gd (inb (nI (14 * (g + i) + j)) 1960) z = z := fun z j hj => gd_pos (by rw [inb_nI (by omega)]; omega)
      simp only [s23, a19, a4, a5, a6, a8, ek, j1, j2, j4, j11, j12, j13, kc 1 (by omega), kc 2 (by omega), kc 4 (by omega), kc 11 (by omega), kc 12 (by omega), kc 13 (by omega), gg _ 1 (by omega), gg _ 2 (by omega), gg _ 4 (by omega), gg _ 11 (by omega), gg _ 12 (by omega), gg _ 13 (by omega), ← h4, ← h5, s_inRange, bd1_s, jn0]
      obtain ⟨o, ho⟩ : ∃ o, ods[i]? = some o := ⟨ods[i]'(by omega), List.getElem?_eq_getElem (by omega)⟩
      have hm : o ∈ ods := List.mem_of_getElem? ho
      have W : RWK M17 (im_setI (im_setI (im_setI (im_setI M17 21 (14 * (g + i) + 4) w) 21 (14 * (g + i) + 11) ct) 21 (14 * (g + i) + 12) st) 21 (14 * (g + i) + 13) (nI n)) (g + i) (rw1 q g w ct st (nI n) o) := by
        refine RWK_v (RWK_s (by omega) (RWK_s (by omega) (RWK_s (by omega) (RWK_s (by omega) RWK_refl)))) (fun u hu => ?_)
        rw [← rw1_w hu]
        have := hD.2.2 i o ho u hu
        rw [if_neg (by omega)] at this
        show (if u = 13 then nI n else if u = 12 then st else if u = 11 then ct else if u = 4 then w else im_i M17 21 (14 * (g + i) + u)) = _
        rw [this]
      generalize im_setI (im_setI (im_setI (im_setI M17 21 (14 * (g + i) + 4) w) 21 (14 * (g + i) + 11) ct) 21 (14 * (g + i) + 12) st) 21 (14 * (g + i) + 13) (nI n) = N at W ⊢
      have v1 : im_i N 21 (14 * (g + i) + 1) = sxI (q 5) o.1.2.2.1 o.1.2.2.2 o.1.2.1 := RWK_i (by omega) W
      have v2 : im_i N 21 (14 * (g + i) + 2) = syI (q 6) o.1.2.2.1 o.1.2.2.2 o.1.2.1 := RWK_i (by omega) W
      rw [v1, v2]
      have fN := fr_tr W.1 f
      by_cases p1 : farI (sxI (q 5) o.1.2.2.1 o.1.2.2.2 o.1.2.1) = true
      · rw [if_pos p1, if_pos rfl, bd1_s]
        exact lpo_l 0 (by omega) (Or.inr ⟨rfl, fN, fun z => by have := (z o hm).1; rw [p1] at this; cases this⟩)
      · rw [if_neg p1, if_neg (show ¬ (1 : Int32) = 0 by decide)]
        by_cases p2 : farI (syI (q 6) o.1.2.2.1 o.1.2.2.2 o.1.2.1) = true
        · rw [if_pos p2, if_pos rfl, bd1_s]
          exact lpo_l 0 (by omega) (Or.inr ⟨rfl, fN, fun z => by have := (z o hm).2; rw [p2] at this; cases this⟩)
        · rw [if_neg p2, if_neg (show ¬ (1 : Int32) = 0 by decide), bd1_s]
          refine lpo_l (k - 1) (by omega) (Or.inl ⟨i + 1, by omega, by omega, rfl, nI_add i 1, ⟨fN, fun p hp => ?_, fun t o' ht u hu => ?_⟩, fun t o' ht hto => ?_⟩)
          · show im_i N 21 p = _
            rw [W.2, if_neg (by omega)]
            exact hD.2.1 p hp
          · show im_i N 21 (14 * (g + t) + u) = _
            by_cases e : t = i
            · subst e
              rw [ho] at ht
              cases ht
              rw [RWK_i hu W, if_pos (by omega)]
            · rw [W.2, if_neg (by omega), hD.2.2 t o' ht u hu]
              by_cases lt : t < i
              · rw [if_pos lt, if_pos (by omega)]
              · rw [if_neg lt, if_neg (by omega)]
          · by_cases e : t = i
            · subst e
              rw [ho] at hto
              cases hto
              exact ⟨by simpa using p1, by simpa using p2⟩
            · exact hN t o' (by omega) hto
  · replace e1 : x15 = 0 := e1
    subst e1
    rw [if_pos rfl]
    exact lpo_r ⟨hf, Or.inr ⟨rfl, hno⟩⟩
