/-! STRIKES, FRAMES -/
def alQ (q : Nat) (X Y x y : Int) : Int := if q = 0 then x - X else if q = 1 then y - Y else if q = 2 then X - x else Y - y
def acQ (q : Nat) (X Y x y : Int) : Int := if q = 0 then y - Y else if q = 1 then X - x else if q = 2 then Y - y else x - X
/-- the pen's place and quarter -/
def PN (M : im_M) (X Y : Int) (q : Nat) : Prop := im_i M 56 5 = iZ X ∧ im_i M 56 6 = iZ Y ∧ im_i M 56 7 = nI q ∧ q < 4 ∧ -4096 ≤ X ∧ X ≤ 4096 ∧ -4096 ≤ Y ∧ Y ≤ 4096
theorem PN_fr {A : Nat} {F : List (Nat × Nat)} {M M' : im_M} {X Y : Int} {q : Nat} (h : fr A F M M') (c : clr A F [] [(56, 5), (56, 6), (56, 7)] [] = true) (p : PN M X Y q) : PN M' X Y q := by
  unfold PN at p ⊢
  rw [clr_f c h (a := 56) (k := 5) (by decide), clr_f c h (a := 56) (k := 6) (by decide), clr_f c h (a := 56) (k := 7) (by decide)]
  exact p
def stB (q : Nat) (X Y i j wd hg : Int) (x y : Nat) : Bool := decide (i ≤ alQ q X Y x y ∧ alQ q X Y x y ≤ i + wd - 1 ∧ j ≤ acQ q X Y x y ∧ acQ q X Y x y ≤ j + hg - 1)
theorem s_strike {w : Bool} {M0 M : im_M} {W H q : Nat} {D P : Nat → Nat → Bool} {wy : Int32} {X Y i j wd hg : Int} (h : CDS w M0 M W H D P wy) (hp : PN M0 X Y q) (hi : 0 ≤ i ∧ i ≤ 200000) (hj : 0 ≤ j ∧ j ≤ 200000) (hw : 0 ≤ wd ∧ wd ≤ 200000) (hh : 0 ≤ hg ∧ hg ≤ 200000) (hd : ∀ x y, x < W → y < H → stB q X Y i j wd hg x y = true → P x y = false) : ed (f_HPen_strike w (iZ i) (iZ j) (iZ wd) (iZ hg) M) (fun R => CDS w M0 R W H D (fun x y => P x y || stB q X Y i j wd hg x y) wy) := by
  have hpM := PN_fr h.2.2.2 (by decide +kernel) hp
  obtain ⟨p5, p6, p7, q4, X1, X2, Y1, Y2⟩ := hpM
  have n1 : (1 : Int32) = iZ 1 := rfl
  -- the box l t r b is the strike
  have go : ∀ l t r b : Int, (∀ x y : Nat, (l ≤ (x : Int) ∧ (x : Int) ≤ r ∧ t ≤ (y : Int) ∧ (y : Int) ≤ b) ↔ (i ≤ alQ q X Y x y ∧ alQ q X Y x y ≤ i + wd - 1 ∧ j ≤ acQ q X Y x y ∧ acQ q X Y x y ≤ j + hg - 1)) → (-1000000 ≤ l ∧ l ≤ 1000000) → (-1000000 ≤ t ∧ t ≤ 1000000) → (-1000000 ≤ r ∧ r ≤ 1000000) → (-1000000 ≤ b ∧ b ≤ 1000000) → ed (bd1 (f_HSheet_box w (iZ l) (iZ t) (iZ r) (iZ b) M) fun (M1 : im_M) => some M1) (fun R => CDS w M0 R W H D (fun x y => P x y || stB q X Y i j wd hg x y) wy) := by
    intro l t r b e hl ht hr hb
    have eb : ∀ x y, bxB l t r b x y = stB q X Y i j wd hg x y := fun x y => by
      unfold bxB stB
      exact decide_eq_decide.mpr (e x y)
    apply bd1_mk
    refine ed_mono (s_box h hl ht hr hb (fun x y hx hy hb => hd x y hx hy (by rw [← eb]; exact hb))) (fun R hR => ed_mk (CDS_c hR (fun x y _ _ => by rw [eb])))
  unfold f_HPen_strike
  have k0 : (nI q = 0) = (q = 0) := nIe (c := 0) (by omega) (by omega)
  have k1 : (nI q = 1) = (q = 1) := nIe (c := 1) (by omega) (by omega)
  have k2 : (nI q = 2) = (q = 2) := nIe (c := 2) (by omega) (by omega)
  rw [p5, p6, p7]
  simp only [k0, k1, k2]
  by_cases q0 : q = 0
  · rw [if_pos q0, n1, iZ_add, iZ_add, iZ_add, iZ_add, iZ_sub, iZ_sub]
    refine go _ _ _ _ (fun x y => ?_) (by omega) (by omega) (by omega) (by omega)
    unfold alQ acQ
    rw [if_pos q0, if_pos q0]
    omega
  · rw [if_neg q0]
    by_cases q1 : q = 1
    · rw [if_pos q1, n1, iZ_sub, iZ_sub, iZ_add, iZ_add, iZ_add, iZ_sub]
      refine go _ _ _ _ (fun x y => ?_) (by omega) (by omega) (by omega) (by omega)
      unfold alQ acQ
      rw [if_neg q0, if_pos q1, if_neg q0, if_pos q1]
      omega
    · rw [if_neg q1]
      by_cases q2 : q = 2
      · rw [if_pos q2, n1, iZ_sub, iZ_sub, iZ_add, iZ_sub, iZ_sub, iZ_add]
        refine go _ _ _ _ (fun x y => ?_) (by omega) (by omega) (by omega) (by omega)
        unfold alQ acQ
        rw [if_neg q0, if_neg q1, if_pos q2, if_neg q0, if_neg q1, if_pos q2]
        omega
      · rw [if_neg q2, n1, iZ_add, iZ_sub, iZ_sub, iZ_add, iZ_add, iZ_sub]
        refine go _ _ _ _ (fun x y => ?_) (by omega) (by omega) (by omega) (by omega)
        unfold alQ acQ
        rw [if_neg q0, if_neg q1, if_neg q2, if_neg q0, if_neg q1, if_neg q2]
        omega
/-- the dots of a frame -/
def frB (X Y a b t : Int) (x y : Nat) : Bool := decide ((X ≤ (x : Int) ∧ (x : Int) ≤ X + a - 1 ∧ Y ≤ (y : Int) ∧ (y : Int) ≤ Y + b - 1) ∧ ¬ (X + t ≤ (x : Int) ∧ (x : Int) ≤ X + a - 1 - t ∧ Y + t ≤ (y : Int) ∧ (y : Int) ≤ Y + b - 1 - t))
theorem s_drawFrame {w : Bool} {M : im_M} {W H q : Nat} {D : Nat → Nat → Bool} {wy : Int32} {X Y a b t : Int} (h : CDS w M M W H D (fun _ _ => false) wy) (hp : PN M X Y q) (ha : 1 ≤ a ∧ a ≤ 2048) (hb : 1 ≤ b ∧ b ≤ 2048) (ht : 1 ≤ t ∧ t ≤ 200) : ed (f_HPen_drawFrame w (iZ a) (iZ b) (iZ t) M) (fun R => CDS w M R W H D (frB X Y a b t) wy) := by
  have n1 : (1 : Int32) = iZ 1 := rfl
  have n2 : (2 : Int32) * iZ t = iZ (2 * t) := by rw [show (2 : Int32) = iZ 2 from rfl, iZ_mul]
  have l1 : (iZ a ≤ iZ (2 * t)) = (a ≤ 2 * t) := iZ_le (by omega) (by omega)
  have l2 : (iZ (2 * t) < iZ b) = (2 * t < b) := iZ_lt (by omega) (by omega)
  obtain ⟨p5, p6, _, _, X1, X2, Y1, Y2⟩ := hp
  have pk : ∀ {R : im_M} {P : Nat → Nat → Bool}, CDS w M R W H D P wy → im_i R 56 5 = iZ X ∧ im_i R 56 6 = iZ Y := fun hR => ⟨(hR.2.2.2.1 56 5 (by decide) (by decide)).trans p5, (hR.2.2.2.1 56 6 (by decide) (by decide)).trans p6⟩
  unfold f_HPen_drawFrame
  simp only [jn1, n2, l1, l2]
  have whole : (a ≤ 2 * t ∨ ¬ 2 * t < b) → ed (bd1 (f_HSheet_box w (im_i M 56 5) (im_i M 56 6) (((im_i M 56 5) + iZ a) - 1) (((im_i M 56 6) + iZ b) - 1) M) fun (M10 : im_M) => some M10) (fun R => CDS w M R W H D (frB X Y a b t) wy) := fun z => by
    rw [p5, p6, n1, iZ_add, iZ_add, iZ_sub, iZ_sub]
    apply bd1_mk
    refine ed_mono (s_box h (by omega) (by omega) (by omega) (by omega) (fun _ _ _ _ _ => rfl)) (fun R hR => ed_mk (CDS_c hR (fun x y _ _ => ?_)))
    rw [Bool.false_or]
    unfold bxB frB
    exact decide_eq_decide.mpr (by omega)
  by_cases c1 : a ≤ 2 * t
  · rw [if_pos c1]
    exact whole (Or.inl c1)
  · rw [if_neg c1]
    by_cases c2 : 2 * t < b
    · rw [if_pos c2, p5, p6, n1, iZ_add, iZ_add, iZ_sub, iZ_sub]
      apply bd1_mk
      refine ed_mono (s_box h (by omega) (by omega) (by omega) (by omega) (fun _ _ _ _ _ => rfl)) ?_
      intro R1 h1
      rw [(pk h1).1, (pk h1).2, iZ_add, iZ_add, iZ_sub, iZ_sub, iZ_sub]
      apply bd1_mk
      refine ed_mono (s_box h1 (by omega) (by omega) (by omega) (by omega) (fun x y _ _ hb => ?_)) ?_
      · unfold bxB at hb ⊢
        rw [Bool.false_or]
        have := of_decide_eq_true hb
        exact decide_eq_false (by omega)
      intro R2 h2
      rw [(pk h2).1, (pk h2).2, iZ_add, iZ_add, iZ_sub, iZ_add, iZ_sub, iZ_sub]
      apply bd1_mk
      refine ed_mono (s_box h2 (by omega) (by omega) (by omega) (by omega) (fun x y _ _ hb => ?_)) ?_
      · unfold bxB at hb ⊢
        rw [Bool.false_or]
        have := of_decide_eq_true hb
        rw [decide_eq_false (by omega), decide_eq_false (by omega)]
        rfl
      intro R3 h3
      rw [(pk h3).1, (pk h3).2, iZ_add, iZ_sub, iZ_add, iZ_sub, iZ_add, iZ_sub, iZ_sub]
      apply bd1_mk
      refine ed_mono (s_box h3 (by omega) (by omega) (by omega) (by omega) (fun x y _ _ hb => ?_)) ?_
      · unfold bxB at hb ⊢
        rw [Bool.false_or]
        have := of_decide_eq_true hb
        rw [decide_eq_false (by omega), decide_eq_false (by omega), decide_eq_false (by omega)]
        rfl
      intro R4 h4
      refine ed_mk (CDS_c h4 (fun x y _ _ => ?_))
      rw [Bool.false_or]
      unfold bxB frB
      rw [← Bool.decide_or, ← Bool.decide_or, ← Bool.decide_or]
      exact decide_eq_decide.mpr (by omega)
    · rw [if_neg c2]
      exact whole (Or.inr c2)
/-- the reference's figure -/
def FAT (M : im_M) (X Y a b t : Int) : Prop := im_i M 89 10 = iZ X ∧ im_i M 89 11 = iZ Y ∧ im_i M 89 12 = iZ a ∧ im_i M 89 13 = iZ b ∧ im_i M 89 14 = iZ t
theorem bl_frame {M : im_M} {X Y a b t : Int} (h : FAT M X Y a b t) (hX : -4096 ≤ X ∧ X ≤ 4096) (hY : -4096 ≤ Y ∧ Y ≤ 4096) (ha : 1 ≤ a ∧ a ≤ 2048) (hb : 1 ≤ b ∧ b ≤ 2048) (ht : 1 ≤ t ∧ t ≤ 200) {x y : Nat} (hx : x < 512) (hy : y < 512) : f_MDotRows_belongs 0 (nI x) (nI y) M = some (if frB X Y a b t x y = true then 1 else 0) := by
  obtain ⟨e1, e2, e3, e4, e5⟩ := h
  have n1 : (1 : Int32) = iZ 1 := rfl
  unfold f_MDotRows_belongs f_MDotRows_inFrame
  rw [if_neg (fun z => z rfl), e1, e2, e3, e4, e5, iZ_nI, iZ_nI]
  simp only [jn0]
  rw [show (iZ X + iZ a) - 1 = iZ (X + a - 1) by rw [n1, iZ_add, iZ_sub], show (iZ Y + iZ b) - 1 = iZ (Y + b - 1) by rw [n1, iZ_add, iZ_sub], iZ_sub, iZ_sub, iZ_add, iZ_add]
  have g : ∀ u v : Int, -100000 ≤ u ∧ u ≤ 100000 → -100000 ≤ v ∧ v ≤ 100000 → (iZ u < iZ v) = (u < v) := fun u v hu hv => iZ_lt (by omega) (by omega)
  have gl : ∀ u v : Int, -100000 ≤ u ∧ u ≤ 100000 → -100000 ≤ v ∧ v ≤ 100000 → (iZ u ≤ iZ v) = (u ≤ v) := fun u v hu hv => iZ_le (by omega) (by omega)
  simp only [g (x : Int) X (by omega) (by omega), g (X + a - 1) (x : Int) (by omega) (by omega), g (y : Int) Y (by omega) (by omega), g (Y + b - 1) (y : Int) (by omega) (by omega), g (x : Int) (X + t) (by omega) (by omega), g (X + a - 1 - t) (x : Int) (by omega) (by omega), g (y : Int) (Y + t) (by omega) (by omega), gl (y : Int) (Y + b - 1 - t) (by omega) (by omega)]
  have z1 : ¬ (1 : Int32) = 0 := by decide
  unfold frB
  simp only [decide_eq_true_eq]
  by_cases i1 : (x : Int) < X
  · rw [if_pos i1, if_pos rfl, if_neg (by omega)]; rfl
  · rw [if_neg i1]
    by_cases i2 : X + a - 1 < (x : Int)
    · rw [if_pos i2, if_pos rfl, if_neg (by omega)]; rfl
    · rw [if_neg i2]
      by_cases i3 : (y : Int) < Y
      · rw [if_pos i3, if_pos rfl, if_neg (by omega)]; rfl
      · rw [if_neg i3]
        by_cases i4 : Y + b - 1 < (y : Int)
        · rw [if_pos i4, if_pos rfl, if_neg (by omega)]; rfl
        · rw [if_neg i4, if_neg z1]
          by_cases j1 : (x : Int) < X + t
          · rw [if_pos j1, if_pos (by omega)]; rfl
          · rw [if_neg j1]
            by_cases j2 : X + a - 1 - t < (x : Int)
            · rw [if_pos j2, if_pos (by omega)]; rfl
            · rw [if_neg j2]
              by_cases j3 : (y : Int) < Y + t
              · rw [if_pos j3, if_pos (by omega)]; rfl
              · rw [if_neg j3]
                by_cases j4 : (y : Int) ≤ Y + b - 1 - t
                · rw [if_pos j4, if_neg (by omega)]; rfl
                · rw [if_neg j4, if_pos (by omega)]; rfl
/-- what the reference's drawing of a figure leaves -/
def DRW (M : im_M) (W H : Nat) (D P : Nat → Nat → Bool) (wy : Int32) (r : Int32 × im_M) : Prop := r.1 = nI (allB P W H) ∧ DR r.2 W H (fun a b => if a < W ∧ b < H ∧ P a b = true then stk wy (D a b) else D a b) ∧ fr (2 ^ 90 ||| 2 ^ 95) [(89, 0), (89, 10), (89, 11), (89, 12), (89, 13), (89, 14), (89, 15), (89, 16)] M r.2
theorem noPlZ {M : im_M} {X Y : Int} (hX : -4096 ≤ X ∧ X ≤ 4096) (hY : -4096 ≤ Y ∧ Y ≤ 4096) : f_MDotRows_noPlace (iZ X) (iZ Y) M = some 0 := by
  unfold f_MDotRows_noPlace
  have a1 : (-4096 : Int32) = iZ (-4096) := by decide
  have a2 : (4096 : Int32) = iZ 4096 := rfl
  simp only [jn0]
  rw [a1, a2]
  have c1 : (iZ X < iZ (-4096)) = (X < -4096) := iZ_lt (by omega) (by omega)
  have c2 : (iZ 4096 < iZ X) = (4096 < X) := iZ_lt (by omega) (by omega)
  have c3 : (iZ Y < iZ (-4096)) = (Y < -4096) := iZ_lt (by omega) (by omega)
  have c4 : (iZ Y ≤ iZ 4096) = (Y ≤ 4096) := iZ_le (by omega) (by omega)
  simp only [c1, c2, c3, c4]
  rw [if_neg (by omega), if_neg (by omega), if_neg (by omega), if_pos hY.2]
theorem isnZ {M : im_M} {v a b : Int} (hv : a ≤ v ∧ v ≤ b) (ha : -1000000 ≤ a) (hb : b ≤ 1000000) : f_MDotRows_isNot (iZ v) (iZ a) (iZ b) M = some 0 := isn0 (by rw [iZ_lt (by omega) (by omega)]; omega) (by rw [iZ_le (by omega) (by omega)]; omega)
theorem s_frameM {M : im_M} {W H : Nat} {D : Nat → Nat → Bool} {wy : Int32} {X Y a b t : Int} (q : DR M W H D) (hwy : im_i M 89 3 = wy) (hw2 : wy = 0 ∨ wy = 2) (hX : -4096 ≤ X ∧ X ≤ 4096) (hY : -4096 ≤ Y ∧ Y ≤ 4096) (ha : 1 ≤ a ∧ a ≤ 2048) (hb : 1 ≤ b ∧ b ≤ 2048) (ht : 1 ≤ t ∧ t ≤ 200) : ed (f_MDotRows_frame (iZ X) (iZ Y) (iZ a) (iZ b) (iZ t) M) (DRW M W H D (frB X Y a b t) wy) := by
  unfold f_MDotRows_frame f_MDotRows_noRing f_MDotRows_at
  have n1 : (1 : Int32) = iZ 1 := rfl
  have r1 : f_MDotRows_isNot (iZ a) 1 2048 M = some 0 := isnZ (a := 1) (b := 2048) ha (by omega) (by omega)
  have r2 : f_MDotRows_isNot (iZ b) 1 2048 M = some 0 := isnZ (a := 1) (b := 2048) hb (by omega) (by omega)
  have r3 : f_MDotRows_isNot (iZ t) 1 200 M = some 0 := isnZ (a := 1) (b := 200) ht (by omega) (by omega)
  simp only [jn0]
  rw [noPlZ hX hY, bd1_s, if_neg (fun z => z rfl), r1, bd1_s, if_neg (fun z => z rfl), r2, bd1_s, if_neg (fun z => z rfl), r3, bd1_s, if_pos rfl, bd1_s, if_pos rfl, bd1_s]
  rw [if_pos (show im_i (im_setI M 89 0 0) 89 0 ≤ 0 by show (0 : Int32) ≤ 0; decide), bd1_s]
  generalize hN : im_setI (im_setI (im_setI (im_setI (im_setI (im_setI M 89 0 0) 89 10 (iZ X)) 89 11 (iZ Y)) 89 12 (iZ a)) 89 13 (iZ b)) 89 14 (iZ t) = N
  have fN : fr 0 [(89, 0), (89, 10), (89, 11), (89, 12), (89, 13), (89, 14)] M N := by
    rw [← hN]
    exact fr_F (by decide) (fr_F (by decide) (fr_F (by decide) (fr_F (by decide) (fr_F (by decide) (fr_F (by decide) fr_refl)))))
  have fat : FAT N X Y a b t := by rw [← hN]; exact ⟨rfl, rfl, rfl, rfl, rfl⟩
  have qN : DR N W H D := DR_fr fN (by decide +kernel) q
  apply bd2_mk
  refine ed_mono (s_draw (B := frB X Y a b t) (fig := 0) qN ((fN.1 89 3 (by decide) (by decide)).trans hwy) hw2 (fun M' f' x y hx hy => ?_)) ?_
  · have := qN.1
    refine bl_frame ⟨?_, ?_, ?_, ?_, ?_⟩ hX hY ha hb ht (by omega) (by omega)
    · rw [f'.1 89 10 (by decide) (by decide)]; exact fat.1
    · rw [f'.1 89 11 (by decide) (by decide)]; exact fat.2.1
    · rw [f'.1 89 12 (by decide) (by decide)]; exact fat.2.2.1
    · rw [f'.1 89 13 (by decide) (by decide)]; exact fat.2.2.2.1
    · rw [f'.1 89 14 (by decide) (by decide)]; exact fat.2.2.2.2
  · rintro ⟨x19, M19⟩ ⟨h1, h2, h3⟩
    exact ed_mk ⟨h1, h2, fr_tr (fr_mono (by decide) (by decide) h3) (fr_mono (by decide) (by decide) fN)⟩
