/-! PICTURES -/
/-- an order of the class: its bytes -/
def OCl (M : im_M) (k s : Nat) (B : Nat → Nat) : Prop := k < 120 ∧ s ≤ 200 ∧ im_i M 13 (14 * k + 8) = nI s ∧ ∀ i, i < s → B i < 256 ∧ im_i M 14 (200 * k + i) &&& 255 = nI (B i)
theorem OCl_fr {A : Nat} {F : List (Nat × Nat)} {M M' : im_M} {k s : Nat} {B : Nat → Nat} (h : fr A F M M') (c : clr A F [13, 14] [] [] = true) (q : OCl M k s B) : OCl M' k s B := by
  unfold OCl at q ⊢
  rw [clr_a c h (a := 13) (by decide), clr_a c h (a := 14) (by decide)]
  exact q
theorem s_value1 {M : im_M} {k u : Nat} (hk : k < 120) (hu : u < 14) : f_HOrders_value_1 (nI k) (nI u) M = some (im_i M 13 (14 * k + u)) := by
  unfold f_HOrders_value_1
  rw [k14, nI_add, gd_pos (by rw [inb_nI (by omega)]; omega), nI_clamp (by omega)]
theorem s_byteAt {M : im_M} {k s i : Nat} {B : Nat → Nat} (h : OCl M k s B) (hi : i < s) : f_HOrders_byteAt (nI k) (nI i) M = some (nI (B i)) := by
  obtain ⟨hk, hs, _, hB⟩ := h
  unfold f_HOrders_byteAt
  have e : nI k * 200 + nI i = nI (200 * k + i) := by rw [nI_n, nI_mul, nI_add, Nat.mul_comm]
  rw [e, gd_pos (by rw [inb_nI (by omega)]; omega), nI_clamp (by omega)]
  exact congrArg some (hB i hi).2
theorem and1_0 {v : Int32} {s : Nat} (hs : s < 32) : ((v >>> (iZ ((s : Nat) : Int) &&& 31 : Int32) : Int32) &&& 1 = 0) = (ib v s = false) := by
  rw [i_and1, ib_shr hs]
  cases ib v s with
  | true => exact propext ⟨fun z => absurd z (by decide), fun z => by cases z⟩
  | false => exact propext ⟨fun _ => rfl, fun _ => rfl⟩
theorem and1_1 {v : Int32} {s : Nat} (hs : s < 32) : ((v >>> (iZ ((s : Nat) : Int) &&& 31 : Int32) : Int32) &&& 1 = 1) = (ib v s = true) := by
  rw [i_and1, ib_shr hs]
  cases ib v s with
  | true => exact propext ⟨fun _ => rfl, fun _ => rfl⟩
  | false => exact propext ⟨fun z => absurd z (by decide), fun z => by cases z⟩
theorem sh_8 {c : Nat} (hc : c < 100000) : (7 : Int32) - (nI c - nI c / 8 * 8) = iZ ((7 - c % 8 : Nat) : Int) := by
  rw [show nI c - nI c / 8 * 8 = nI (c % 8) from nI_rem (b := 8) (by omega) (by omega) (by omega), show (7 : Int32) = nI 7 from rfl, nI_sb (by omega), iZ_nI]
/-- the dots of a picture, and those of its first rows and columns -/
def picT (a rb rows : Nat) (B : Nat → Nat) (c r : Nat) : Bool := decide (c < a ∧ r < rows) && ib (nI (B (r * rb + c / 8))) (7 - c % 8)
def picB (X Y : Int) (a rb rows : Nat) (B : Nat → Nat) (x y : Nat) : Bool := decide (X ≤ (x : Int) ∧ Y ≤ (y : Int)) && picT a rb rows B ((x : Int) - X).toNat ((y : Int) - Y).toNat
def picL (X Y : Int) (a rb rows : Nat) (B : Nat → Nat) (r0 c0 : Nat) (x y : Nat) : Bool := picB X Y a rb rows B x y && decide ((y : Int) - Y < (r0 : Int) ∨ ((y : Int) - Y = (r0 : Int) ∧ (x : Int) - X < (c0 : Int)))
theorem picL_s {X Y : Int} {a rb rows r0 c0 : Nat} {B : Nat → Nat} {x y : Nat} (hr : r0 < rows) (hc : c0 < a) : picL X Y a rb rows B r0 (c0 + 1) x y = (picL X Y a rb rows B r0 c0 x y || (ib (nI (B (r0 * rb + c0 / 8))) (7 - c0 % 8) && bxB (X + (c0 : Int)) (Y + (r0 : Int)) (X + (c0 : Int)) (Y + (r0 : Int)) x y)) := by
  unfold picL
  by_cases e : (x : Int) = X + (c0 : Int) ∧ (y : Int) = Y + (r0 : Int)
  · have b1 : bxB (X + (c0 : Int)) (Y + (r0 : Int)) (X + (c0 : Int)) (Y + (r0 : Int)) x y = true := decide_eq_true (by omega)
    have t : picB X Y a rb rows B x y = ib (nI (B (r0 * rb + c0 / 8))) (7 - c0 % 8) := by
      unfold picB picT
      rw [show ((x : Int) - X).toNat = c0 by omega, show ((y : Int) - Y).toNat = r0 by omega, decide_eq_true (show X ≤ (x : Int) ∧ Y ≤ (y : Int) by omega), decide_eq_true ⟨hc, hr⟩, Bool.true_and, Bool.true_and]
    rw [b1, t, decide_eq_true (by omega), decide_eq_false (by omega), Bool.and_true, Bool.and_false, Bool.false_or]
  · have b1 : bxB (X + (c0 : Int)) (Y + (r0 : Int)) (X + (c0 : Int)) (Y + (r0 : Int)) x y = false := decide_eq_false (by omega)
    rw [b1, Bool.and_false, Bool.or_false]
    congr 1
    exact decide_eq_decide.mpr (by omega)
theorem picL_d {X Y : Int} {a rb rows r0 c0 : Nat} {B : Nat → Nat} {x y : Nat} (h : bxB (X + (c0 : Int)) (Y + (r0 : Int)) (X + (c0 : Int)) (Y + (r0 : Int)) x y = true) : picL X Y a rb rows B r0 c0 x y = false := by
  have := of_decide_eq_true h
  unfold picL
  rw [decide_eq_false (by omega), Bool.and_false]
theorem picB_r {X Y : Int} {a rb rows : Nat} {B : Nat → Nat} {x y : Nat} (h : picB X Y a rb rows B x y = true) : (x : Int) - X < (a : Int) ∧ (y : Int) - Y < (rows : Int) := by
  unfold picB picT at h
  rw [Bool.and_eq_true, Bool.and_eq_true] at h
  have h1 := of_decide_eq_true h.1
  have h2 := of_decide_eq_true h.2.1
  omega
theorem picL_e {X Y : Int} {a rb rows r0 : Nat} {B : Nat → Nat} {x y : Nat} : picL X Y a rb rows B r0 a x y = picL X Y a rb rows B (r0 + 1) 0 x y := by
  unfold picL
  cases h : picB X Y a rb rows B x y with
  | false => rfl
  | true =>
    have := picB_r h
    have hx : X ≤ (x : Int) := by
      unfold picB at h
      rw [Bool.and_eq_true] at h
      exact (of_decide_eq_true h.1).1
    rw [Bool.true_and, Bool.true_and]
    exact decide_eq_decide.mpr (by omega)
theorem s_drawPicture {w : Bool} {M : im_M} {W H q k s a : Nat} {D : Nat → Nat → Bool} {wy : Int32} {X Y : Int} {B : Nat → Nat} (h : CDS w M M W H D (fun _ _ => false) wy) (hp : PN M X Y q) (ho : OCl M k s B) (ha : im_i M 13 (14 * k + 5) = nI a) (ha1 : 1 ≤ a ∧ a ≤ 1024) : ed (f_HPen_drawPicture w (nI k) M) (fun R => CDS w M R W H D (picB X Y a ((a + 7) / 8) (s / ((a + 7) / 8)) B) wy) := by
  have hk := ho.1
  have hs := ho.2.1
  obtain ⟨p5, p6, _, _, X1, X2, Y1, Y2⟩ := hp
  have rb1 : 1 ≤ (a + 7) / 8 := by omega
  have ra : a ≤ 8 * ((a + 7) / 8) := by omega
  have erb : (nI a + 7) / 8 = nI ((a + 7) / 8) := by
    rw [show nI a + 7 = nI (a + 7) from nI_add _ 7, show (8 : Int32) = nI 8 from rfl, nI_div (by omega) (by omega) (by omega)]
  have nz : ¬ nI ((a + 7) / 8) = 0 := nI_z (by omega) (by omega)
  have erw : nI s / nI ((a + 7) / 8) = nI (s / ((a + 7) / 8)) := nI_div (by omega) (by omega) (by omega)
  have rows_le : s / ((a + 7) / 8) ≤ s := Nat.div_le_self _ _
  have rows_m : s / ((a + 7) / 8) * ((a + 7) / 8) ≤ s := Nat.div_mul_le_self _ _
  unfold f_HPen_drawPicture
  rw [show (5 : Int32) = nI 5 from rfl, s_value1 hk (by omega), bd1_s, ha, show (8 : Int32) = nI 8 from rfl, s_value1 hk (by omega), bd1_s, ho.2.2.1]
  rw [show nI 8 = (8 : Int32) from rfl, erb, gd_pos nz, erw]
  generalize (a + 7) / 8 = rb at *
  generalize s / rb = rows at *
  apply bd1_mk
  refine ed_mono (lp_inv (fun m (t : Int32 × im_M) => ∃ r : Nat, r + m = rows ∧ t.1 = nI r ∧ CDS w M t.2 W H D (picL X Y a rb rows B r 0) wy) (Q := fun R => CDS w M R W H D (picB X Y a rb rows B) wy) ?_ (k := rows) ⟨0, by omega, rfl, CDS_c h (fun x y _ _ => ?_)⟩) (fun R h => ed_mk h)
  · rintro m ⟨x8, M9⟩ ⟨r, hr, e1, hC⟩
    replace e1 : x8 = nI r := e1
    replace hC : CDS w M M9 W H D (picL X Y a rb rows B r 0) wy := hC
    subst e1
    show ed (f_HPen_drawPicture_L31 w (nI k) (nI a) (nI rb) (nI rows) (nI r) M9) _
    unfold f_HPen_drawPicture_L31
    rw [if_nIl (by omega) (by omega)]
    by_cases c : rows ≤ r
    · rw [if_pos c]
      obtain rfl : r = rows := by omega
      refine lpo_r (CDS_c hC (fun x y _ _ => ?_))
      unfold picL
      cases hb : picB X Y a rb r B x y with
      | false => rfl
      | true =>
        have := picB_r hb
        rw [Bool.true_and, decide_eq_true (Or.inl this.2)]
    · rw [if_neg c]
      apply bd1_mk
      refine ed_mono (lp_inv (fun m2 (t : Int32 × im_M) => ∃ c0 : Nat, c0 + m2 = a ∧ t.1 = nI c0 ∧ CDS w M t.2 W H D (picL X Y a rb rows B r c0) wy) (Q := fun R => CDS w M R W H D (picL X Y a rb rows B r a) wy) ?_ (k := a) ⟨0, by omega, rfl, hC⟩) ?_
      · rintro m2 ⟨x16, M17⟩ ⟨c0, hc0, e2, hC2⟩
        replace e2 : x16 = nI c0 := e2
        replace hC2 : CDS w M M17 W H D (picL X Y a rb rows B r c0) wy := hC2
        subst e2
        show ed (f_HPen_drawPicture_L41 w (nI k) (nI a) (nI rb) (nI rows) (nI r) (nI c0) M17) _
        unfold f_HPen_drawPicture_L41
        rw [if_nIl (by omega) (by omega)]
        by_cases d : a ≤ c0
        · rw [if_pos d]
          obtain rfl : c0 = a := by omega
          exact lpo_r hC2
        · have ix : nI r * nI rb + nI c0 / 8 = nI (r * rb + c0 / 8) := by rw [nI_mul, show (8 : Int32) = nI 8 from rfl, nI_div (by omega) (by omega) (by omega), nI_add]
          have il : r * rb + c0 / 8 < s := by
            have : (r + 1) * rb ≤ rows * rb := Nat.mul_le_mul_right _ (by omega)
            rw [Nat.succ_mul] at this
            omega
          have o17 := OCl_fr hC2.2.2.2 (by decide +kernel) ho
          rw [if_neg d, ix, s_byteAt o17 il, bd1_s, sh_8 (by omega)]
          have q5 : im_i M17 56 5 = iZ X := (hC2.2.2.2.1 56 5 (by decide) (by decide)).trans p5
          have q6 : im_i M17 56 6 = iZ Y := (hC2.2.2.2.1 56 6 (by decide) (by decide)).trans p6
          simp only [and1_0 (v := nI (B (r * rb + c0 / 8))) (s := 7 - c0 % 8) (by omega)]
          by_cases bt : ib (nI (B (r * rb + c0 / 8))) (7 - c0 % 8) = false
          · rw [if_pos bt, bd1_s]
            refine lpo_l (m2 - 1) (by omega) ⟨c0 + 1, by omega, nI_add c0 1, CDS_c hC2 (fun x y _ _ => ?_)⟩
            rw [picL_s (by omega) (by omega), bt, Bool.false_and, Bool.or_false]
          · have bt1 : ib (nI (B (r * rb + c0 / 8))) (7 - c0 % 8) = true := by simpa using bt
            rw [if_neg bt, q5, q6, iZ_nI (n := c0), iZ_nI (n := r), iZ_add, iZ_add]
            apply bd1_mk
            apply bd1_mk
            refine ed_mono (s_box hC2 (by omega) (by omega) (by omega) (by omega) (fun x y _ _ hb => picL_d hb)) ?_
            intro R hR
            refine ed_mk (lpo_l (m2 - 1) (by omega) ⟨c0 + 1, by omega, by show iZ (c0 : Int) + 1 = _; rw [← iZ_nI]; exact nI_add c0 1, CDS_c hR (fun x y _ _ => ?_)⟩)
            rw [picL_s (by omega) (by omega), bt1, Bool.true_and]
      · intro R hR
        exact lpo_l (m - 1) (by omega) ⟨r + 1, by omega, nI_add r 1, CDS_c hR (fun x y _ _ => picL_e)⟩
  · unfold picL
    cases hb : picB X Y a rb rows B x y with
    | false => rfl
    | true =>
      have : X ≤ (x : Int) ∧ Y ≤ (y : Int) := by
        unfold picB at hb
        rw [Bool.and_eq_true] at hb
        exact of_decide_eq_true hb.1
      rw [Bool.true_and, decide_eq_false (by omega)]
