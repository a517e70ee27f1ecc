/-! AN ORDER, FOLLOWED BY BOTH: what stands before the shapes -/
noncomputable def folC (w : Bool) (p1 x6 x7 x8 x9 : Int32) (N : im_M) : Option (Int32 × im_M) := if x9 = 0 then bd1 (f_HPen_drawText w p1 N) fun (M11 : im_M) => some (1, M11) else if x9 = 1 then bd1 (f_HOrders_value_1 p1 8 N) fun (x12 : Int32) => bd2 (f_HBars_layText (p1 * 200) x12 N) fun (x13 : Int32) (M13 : im_M) => bd1 (f_HPen_drawBars w x13 x6 x7 M13) fun (M14 : im_M) => some (x13, M14) else if x9 = 2 then bd1 (f_HBars_layFigures (p1 * 200) N) fun (M15 : im_M) => bd1 (f_HPen_drawBars w 1 x6 x7 M15) fun (M16 : im_M) => some (1, M16) else if x9 = 3 then bd1 (f_HOrders_value_1 p1 8 N) fun (x17 : Int32) => bd2 (f_HGrid_make (p1 * 200) x17 x7 x8 N) fun (x18 : Int32) (M18 : im_M) => bd1 (f_HPen_drawSquare w x18 x6 M18) fun (M19 : im_M) => some (x18, M19) else if x9 = 4 then bd1 (f_HPen_drawFrame w x6 x7 x8 N) fun (M20 : im_M) => some (1, M20) else if x9 = 5 then bd1 (f_HPen_drawEllipse w x6 x7 x8 N) fun (M21 : im_M) => some (1, M21) else if x9 = 6 then bd1 (f_HPen_drawLine w x6 x7 x8 N) fun (M22 : im_M) => some (1, M22) else bd1 (f_HPen_drawPicture w p1 N) fun (M23 : im_M) => some (1, M23)
def hdC (M : im_M) (a : Nat) : im_M := im_setI (im_setI (im_setI (im_setI (im_setI M 56 5 (im_i M 13 (14 * a + 1))) 56 6 (im_i M 13 (14 * a + 2))) 56 7 (im_i M 13 (14 * a + 3))) 28 2 ((if ¬ im_i M 13 (14 * a + 4) = 2 then 0 else 1) : Int32)) 28 3 0
theorem hdC_fr {M : im_M} {a : Nat} : fr 0 [(56, 5), (56, 6), (56, 7), (28, 2), (28, 3)] M (hdC M a) := fr_F (by decide) (fr_F (by decide) (fr_F (by decide) (fr_F (by decide) (fr_F (by decide) fr_refl))))
theorem fol_un {w : Bool} {M : im_M} {a : Nat} (ha : a < 120) : f_HPen_follow w (nI a) M = bd2 (folC w (nI a) (im_i M 13 (14 * a + 5)) (im_i M 13 (14 * a + 6)) (im_i M 13 (14 * a + 7)) (im_i M 13 (14 * a + 0)) (hdC M a)) (fun (y24 : Int32) (M25 : im_M) => if y24 = 0 then some ((-1), M25) else some ((im_i M25 28 3), M25)) := by
  have v : ∀ (N : im_M) (u : Nat), u < 14 → im_i N 13 = im_i M 13 → f_HOrders_value_1 (nI a) (nI u) N = some (im_i M 13 (14 * a + u)) := fun N u hu hN => by rw [s_value1 ha hu, hN]
  have h1 : f_HOrders_value_1 (nI a) 1 M = some (im_i M 13 (14 * a + 1)) := v M 1 (by omega) rfl
  have h2 : ∀ x, f_HOrders_value_1 (nI a) 2 (im_setI M 56 5 x) = some (im_i M 13 (14 * a + 2)) := fun x => v _ 2 (by omega) (up_o (by decide))
  have h3 : ∀ x y, f_HOrders_value_1 (nI a) 3 (im_setI (im_setI M 56 5 x) 56 6 y) = some (im_i M 13 (14 * a + 3)) := fun x y => v _ 3 (by omega) ((up_o (by decide)).trans (up_o (by decide)))
  have h4 : ∀ x y z, f_HOrders_value_1 (nI a) 4 (im_setI (im_setI (im_setI M 56 5 x) 56 6 y) 56 7 z) = some (im_i M 13 (14 * a + 4)) := fun x y z => v _ 4 (by omega) ((up_o (by decide)).trans ((up_o (by decide)).trans (up_o (by decide))))
  have e13 : im_i (hdC M a) 13 = im_i M 13 := fr_c hdC_fr 13 (by decide) (by decide)
  have h5 : f_HOrders_value_1 (nI a) 5 (hdC M a) = some (im_i M 13 (14 * a + 5)) := v _ 5 (by omega) e13
  have h6 : f_HOrders_value_1 (nI a) 6 (hdC M a) = some (im_i M 13 (14 * a + 6)) := v _ 6 (by omega) e13
  have h7 : f_HOrders_value_1 (nI a) 7 (hdC M a) = some (im_i M 13 (14 * a + 7)) := v _ 7 (by omega) e13
  have h0 : f_HOrders_value_1 (nI a) 0 (hdC M a) = some (im_i M 13 (14 * a + 0)) := v _ 0 (by omega) e13
  have g : ((if ¬ im_i M 13 (14 * a + 4) = 2 then 0 else 1) : Int32) = 0 ∨ ((if ¬ im_i M 13 (14 * a + 4) = 2 then 0 else 1) : Int32) = 1 := by
    by_cases c : im_i M 13 (14 * a + 4) = 2
    · rw [if_neg (fun z => z c)]; exact Or.inr rfl
    · rw [if_pos c]; exact Or.inl rfl
  unfold f_HPen_follow
  rw [h1, bd1_s, h2, bd1_s, h3, bd1_s, h4, bd1_s, gd_pos g]
  show bd1 (f_HOrders_value_1 (nI a) 5 (hdC M a)) _ = _
  rw [h5, bd1_s]
  show bd1 (f_HOrders_value_1 (nI a) 6 (hdC M a)) _ = _
  rw [h6, bd1_s]
  show bd1 (f_HOrders_value_1 (nI a) 7 (hdC M a)) _ = _
  rw [h7, bd1_s]
  show bd1 (f_HOrders_value_1 (nI a) 0 (hdC M a)) _ = _
  rw [h0, bd1_s]
  rfl
noncomputable def drwC (p0 x4 x5 x6 x7 x8 x9 x10 : Int32) (M10 : im_M) : Option (Int32 × im_M) := if x10 = 0 then bd1 (f_M_draftData p0 M10) fun (M11 : im_M) => bd2 (f_MDotRows_text x4 x5 x7 (((16 : Int32) * x8) + x9) x6 M11) fun (x12 : Int32) (M12 : im_M) => some (x12, M12) else if x10 = 1 then bd2 (f_M_draftRow p0 M10) fun (x13 : Int32) (M13 : im_M) => if x13 = 0 then some ((-1), M13) else bd2 (f_MDotRows_bars x4 x5 x8 x7 x6 M13) fun (x14 : Int32) (M14 : im_M) => some (x14, M14) else if x10 = 2 then bd1 (f_M_draftThirteen p0 M10) fun (M15 : im_M) => bd2 (f_MDotRows_bars x4 x5 x8 x7 x6 M15) fun (x16 : Int32) (M16 : im_M) => some (x16, M16) else if x10 = 3 then bd2 (f_M_draftSymbol p0 M10) fun (x17 : Int32) (M17 : im_M) => bd2 (f_MDotRows_square x4 x5 x17 x7 x6 M17) fun (x18 : Int32) (M18 : im_M) => some (x18, M18) else if x10 = 4 then bd2 (f_MDotRows_frame x4 x5 x7 x8 x9 M10) fun (x19 : Int32) (M19 : im_M) => some (x19, M19) else if x10 = 5 then bd2 (f_MDotRows_ellipse x4 x5 x7 x8 x9 M10) fun (x20 : Int32) (M20 : im_M) => some (x20, M20) else if x10 = 6 then bd2 (f_MDotRows_line x4 x5 (x4 + x7) (x5 + x8) x9 M10) fun (x21 : Int32) (M21 : im_M) => some (x21, M21) else bd1 (f_M_draftData p0 M10) fun (M22 : im_M) => bd2 (f_MDotRows_picture x4 x5 x7 M22) fun (x23 : Int32) (M23 : im_M) => some (x23, M23)
theorem drw_un {M : im_M} {a n : Nat} {wy : Int32} (hn : im_i M 71 37 = nI n) (n2 : n ≤ 120) (ha : a < n) (hw : im_i M 87 (9 * a + 4) = wy) (hw2 : wy = 0 ∨ wy = 2) : ∃ N, f_M_draw (nI a) M = drwC (nI a) (im_i M 87 (9 * a + 1)) (im_i M 87 (9 * a + 2)) (im_i M 87 (9 * a + 3)) (im_i M 87 (9 * a + 5)) (im_i M 87 (9 * a + 6)) (im_i M 87 (9 * a + 7)) (im_i M 87 (9 * a + 0)) N ∧ fr 0 [(71, 0), (89, 0), (89, 3), (89, 7)] M N ∧ im_i N 89 3 = wy ∧ im_i N 89 7 = 0 := by
  have o : ∀ (R : im_M) (u : Nat), u ≤ 8 → fr 0 [(71, 0), (89, 0), (89, 3), (89, 7)] M R → f_MScriptRows_order (nI a) (nI u) R = some (im_i M 87 (9 * a + u), im_setI R 71 0 0) := fun R u hu fR => by
    rw [s_orderM ((fR.1 71 37 (by decide) (by decide)).trans hn) n2 ha hu, fR.1 87 _ (by decide) (by simp)]
  have stp : ∀ R : im_M, fr 0 [(71, 0), (89, 0), (89, 3), (89, 7)] M R → fr 0 [(71, 0), (89, 0), (89, 3), (89, 7)] M (im_setI R 71 0 0) := fun R h => fr_F (by decide) h
  have f1 := stp M fr_refl
  have h4 : f_MScriptRows_order (nI a) 4 M = some (im_i M 87 (9 * a + 4), im_setI M 71 0 0) := o M 4 (by omega) fr_refl
  obtain ⟨M1, hM1⟩ : ∃ M1, M1 = im_setI M 71 0 0 := ⟨_, rfl⟩
  rw [← hM1] at f1 h4
  have hway : f_MDotRows_way wy M1 = some (im_i (im_setI M1 89 0 0) 89 3, im_setI (im_setI M1 89 0 0) 89 3 wy) := by
    unfold f_MDotRows_way
    have e : ((if wy < 0 then 1 else (if wy ≤ 2 then 0 else 1)) : Int32) = 0 := by
      rcases hw2 with rfl | rfl <;> decide
    rw [e, if_pos (show im_i (im_setI M1 89 0 0) 89 0 ≤ 0 by rw [hit]; decide)]
  obtain ⟨M3, hM3⟩ : ∃ M3, M3 = im_setI (im_setI (im_setI (im_setI M1 89 0 0) 89 3 wy) 89 0 0) 89 7 0 := ⟨_, rfl⟩
  have f3 : fr 0 [(71, 0), (89, 0), (89, 3), (89, 7)] M M3 := by rw [hM3]; exact fr_F (by decide) (fr_F (by decide) (fr_F (by decide) (fr_F (by decide) f1)))
  have w3 : im_i M3 89 3 = wy := by rw [hM3, sk1 (by omega), sk1 (by omega)]; exact hit
  have d3 : im_i M3 89 7 = 0 := by rw [hM3]; exact hit
  have f4 := stp _ f3
  have f5 := stp _ f4
  have f6 := stp _ f5
  have f7 := stp _ f6
  have f8 := stp _ f7
  have f9 := stp _ f8
  have f10 := stp _ f9
  have q1 : f_MScriptRows_order (nI a) 1 _ = _ := o _ 1 (by omega) f3
  have q2 : f_MScriptRows_order (nI a) 2 _ = _ := o _ 2 (by omega) f4
  have q3 : f_MScriptRows_order (nI a) 3 _ = _ := o _ 3 (by omega) f5
  have q5 : f_MScriptRows_order (nI a) 5 _ = _ := o _ 5 (by omega) f6
  have q6 : f_MScriptRows_order (nI a) 6 _ = _ := o _ 6 (by omega) f7
  have q7 : f_MScriptRows_order (nI a) 7 _ = _ := o _ 7 (by omega) f8
  have q0 : f_MScriptRows_order (nI a) 0 _ = _ := o _ 0 (by omega) f9
  refine ⟨im_setI (im_setI (im_setI (im_setI (im_setI (im_setI (im_setI M3 71 0 0) 71 0 0) 71 0 0) 71 0 0) 71 0 0) 71 0 0) 71 0 0, ?_, f10, ?_, ?_⟩
  · unfold f_M_draw f_MDotRows_wipe
    rw [h4, bd2_s, hw, hway, bd2_s, bd2_s, ← hM3, q1, bd2_s, q2, bd2_s, q3, bd2_s, q5, bd2_s, q6, bd2_s, q7, bd2_s, q0, bd2_s]
    rfl
  · rw [sk1 (by omega), sk1 (by omega), sk1 (by omega), sk1 (by omega), sk1 (by omega), sk1 (by omega), sk1 (by omega)]
    exact w3
  · rw [sk1 (by omega), sk1 (by omega), sk1 (by omega), sk1 (by omega), sk1 (by omega), sk1 (by omega), sk1 (by omega)]
    exact d3
/-- the sheet behind an order -/
def DOs (W H : Nat) (D P : Nat → Nat → Bool) (wy : Int32) : Nat → Nat → Bool := fun a b => if a < W ∧ b < H ∧ P a b = true then stk wy (D a b) else D a b
theorem CDS_0 {w : Bool} {M : im_M} {W H : Nat} {D : Nat → Nat → Bool} {wy : Int32} (h : DH w M W H D) (h2 : im_i M 28 2 = (if wy = 2 then 1 else 0)) (h3 : im_i M 28 3 = 0) : CDS w M M W H D (fun _ _ => false) wy := by
  refine ⟨?_, ?_, h2, fr_refl⟩
  · have e : (fun x y => if x < W ∧ y < H ∧ (fun (_ _ : Nat) => false) x y = true then stk wy (D x y) else D x y) = D := by
      funext x y
      exact if_neg (fun z => by cases z.2.2)
    rw [e]
    exact h
  · rw [allB_0 (fun _ _ _ _ => rfl)]
    exact h3
theorem CDS_fin {w : Bool} {M0 M : im_M} {W H : Nat} {D P : Nat → Nat → Bool} {wy : Int32} (h : CDS w M0 M W H D P wy) : DH w M W H (DOs W H D P wy) ∧ im_i M 28 3 = nI (allB P W H) := ⟨h.1, h.2.1⟩
theorem and_255 (x : Int32) : ∃ b, b < 256 ∧ x &&& 255 = nI b := by
  obtain ⟨z, rfl, h1, h2⟩ := iZ_of x
  have e := iZ_and (a := z) 8 (by omega)
  replace e : iZ z &&& 255 = iZ (z % 256) := e
  refine ⟨(z % 256).toNat, by omega, ?_⟩
  rw [e, iZ_nI]
  congr 1
  omega
/-- what both know of order a -/
def ORD (Mc Mr : im_M) (a n : Nat) : Prop := a < n ∧ n ≤ 120 ∧ im_i Mr 71 37 = nI n ∧ (∀ j, j < 9 → im_i Mr 87 (9 * a + j) = im_i Mc 13 (14 * a + j)) ∧ OG (fun j => im_i Mc 13 (14 * a + j)) (fun i => im_i Mc 14 (200 * a + i)) ∧ ∃ s : Nat, s ≤ 200 ∧ im_i Mc 13 (14 * a + 8) = nI s ∧ ∀ i, i < s → im_i Mr 88 (200 * a + i) = im_i Mc 14 (200 * a + i) &&& 255
theorem ORD_B {Mc Mr : im_M} {a n : Nat} (h : ORD Mc Mr a n) : ∃ (s : Nat) (B : Nat → Nat), OCl Mc a s B ∧ OM Mr a s B ∧ im_i Mc 13 (14 * a + 8) = nI s := by
  obtain ⟨h1, h2, h3, h4, h5, s, s1, s2, s3⟩ := h
  have B := fun i => Classical.choose_spec (and_255 (im_i Mc 14 (200 * a + i)))
  refine ⟨s, fun i => Classical.choose (and_255 (im_i Mc 14 (200 * a + i))), ⟨by omega, s1, s2, fun i _ => B i⟩, ⟨⟨n, h3, h2, h1⟩, s1, by rw [h4 8 (by omega), s2], fun i hi => ⟨(B i).1, by rw [s3 i hi]; exact (B i).2⟩⟩, s2⟩
theorem smV_9 {V : Nat → Nat} {n : Nat} (h : ∀ i, i < n → V i ≤ 9) : smV V n ≤ 9 * n := by
  induction n with
  | zero => exact Nat.le_refl _
  | succ n ih =>
    have := ih (fun i hi => h i (by omega))
    have := h n (by omega)
    show smV V n + V n ≤ _
    omega
