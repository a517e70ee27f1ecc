/-! PICTURES BY THE REFERENCE; STEPS -/
theorem s_bitM {M : im_M} {n i : Nat} {B : Nat → Nat} (h : DFT M n B) (hi : i / 8 < n) (hi2 : i < 100000) : f_MDotRows_bit (nI i) M = some (if ib (nI (B (i / 8))) (7 - i % 8) = true then 1 else 0) := by
  obtain ⟨_, n4, hB⟩ := h
  unfold f_MDotRows_bit
  have e8 : nI i / 8 = nI (i / 8) := by rw [show (8 : Int32) = nI 8 from rfl, nI_div (by omega) (by omega) (by omega)]
  rw [sh_8 (by omega), e8, gd_pos (by rw [inb_nI (by omega)]; omega), nI_clamp (by omega), (hB _ hi).2]
  simp only [and1_1 (v := nI (B (i / 8))) (s := 7 - i % 8) (by omega)]
  by_cases c : ib (nI (B (i / 8))) (7 - i % 8) = true
  · rw [if_neg (fun z => z c), if_pos c]
  · rw [if_pos c, if_neg c]
theorem bl_picture {M : im_M} {X Y : Int} {a s : Nat} {B : Nat → Nat} {v13 v14 : Int} (h : FAT M X Y (a : Int) v13 v14) (hd : DFT M s B) (hs : s ≤ 200) (hX : -4096 ≤ X ∧ X ≤ 4096) (hY : -4096 ≤ Y ∧ Y ≤ 4096) (ha : 1 ≤ a ∧ a ≤ 1024) {x y : Nat} (hx : x < 512) (hy : y < 512) : f_MDotRows_belongs 6 (nI x) (nI y) M = some (if picB X Y a ((a + 7) / 8) (s / ((a + 7) / 8)) B x y = true then 1 else 0) := by
  obtain ⟨e1, e2, e3, _, _⟩ := h
  have rb1 : 1 ≤ (a + 7) / 8 := by omega
  have ra : a ≤ 8 * ((a + 7) / 8) := by omega
  have erb : (iZ (a : Int) + 7) / 8 = nI ((a + 7) / 8) := by
    rw [← iZ_nI, show nI a + 7 = nI (a + 7) from nI_add _ 7, show (8 : Int32) = nI 8 from rfl, nI_div (by omega) (by omega) (by omega)]
  have nz : ¬ nI ((a + 7) / 8) = 0 := nI_z (by omega) (by omega)
  have erw : nI s / nI ((a + 7) / 8) = nI (s / ((a + 7) / 8)) := nI_div (by omega) (by omega) (by omega)
  have rows_m : s / ((a + 7) / 8) * ((a + 7) / 8) ≤ s := Nat.div_mul_le_self _ _
  have rows_le : s / ((a + 7) / 8) ≤ s := Nat.div_le_self _ _
  have rb2 : (a + 7) / 8 ≤ 200 := by omega
  unfold f_MDotRows_belongs f_MDotRows_inPicture
  rw [if_pos (by decide), if_pos (by decide), if_pos (by decide), if_neg (fun z => z rfl), e1, e2, e3, hd.1, erb, erw, iZ_nI (n := x), iZ_nI (n := y), iZ_sub, iZ_sub]
  have z0 : (0 : Int32) = iZ 0 := rfl
  have c1 : (iZ ((x : Int) - X) < 0) = ((x : Int) - X < 0) := by rw [z0, iZ_lt (by omega) (by omega)]
  have c2 : (iZ (a : Int) ≤ iZ ((x : Int) - X)) = ((a : Int) ≤ (x : Int) - X) := iZ_le (by omega) (by omega)
  have c3 : (iZ ((y : Int) - Y) < 0) = ((y : Int) - Y < 0) := by rw [z0, iZ_lt (by omega) (by omega)]
  have c4' : ∀ R : Nat, R ≤ 200 → (nI R ≤ iZ ((y : Int) - Y)) = ((R : Int) ≤ (y : Int) - Y) := fun R hR => by rw [iZ_nI, iZ_le (by omega) (by omega)]
  have c4 := c4' (s / ((a + 7) / 8)) (Nat.le_trans rows_le hs)
  simp only [c1, c2, c3, c4, gd_pos nz]
  generalize (a + 7) / 8 = rb at *
  generalize s / rb = rows at *
  unfold picB picT
  by_cases i1 : (x : Int) - X < 0
  · rw [if_pos i1, decide_eq_false (show ¬ (X ≤ (x : Int) ∧ Y ≤ (y : Int)) by omega)]; rfl
  · rw [if_neg i1]
    by_cases i2 : (a : Int) ≤ (x : Int) - X
    · rw [if_pos i2, decide_eq_false (show ¬ (((x : Int) - X).toNat < a ∧ ((y : Int) - Y).toNat < rows) by omega), Bool.false_and, Bool.and_false]; rfl
    · rw [if_neg i2]
      by_cases i3 : (y : Int) - Y < 0
      · rw [if_pos i3, decide_eq_false (show ¬ (X ≤ (x : Int) ∧ Y ≤ (y : Int)) by omega)]; rfl
      · rw [if_neg i3]
        by_cases i4 : (rows : Int) ≤ (y : Int) - Y
        · rw [if_pos i4, decide_eq_false (show ¬ (((x : Int) - X).toNat < a ∧ ((y : Int) - Y).toNat < rows) by omega), Bool.false_and, Bool.and_false]; rfl
        · obtain ⟨c, hc⟩ : ∃ c : Nat, (x : Int) - X = (c : Int) := ⟨((x : Int) - X).toNat, (Int.toNat_of_nonneg (by omega)).symm⟩
          obtain ⟨r, hr⟩ : ∃ r : Nat, (y : Int) - Y = (r : Int) := ⟨((y : Int) - Y).toNat, (Int.toNat_of_nonneg (by omega)).symm⟩
          rw [hc] at i2
          rw [hr] at i4
          have r1 : (r + 1) * rb ≤ rows * rb := Nat.mul_le_mul_right _ (by omega)
          rw [Nat.succ_mul] at r1
          have ix : ((8 : Int32) * nI rb) * iZ (r : Int) + iZ (c : Int) = nI (8 * (r * rb) + c) := by
            rw [← iZ_nI, ← iZ_nI, nI_m, nI_mul, nI_add, Nat.mul_assoc, Nat.mul_comm rb r]
          have d8 : (8 * (r * rb) + c) / 8 = r * rb + c / 8 := by omega
          have m8 : (8 * (r * rb) + c) % 8 = c % 8 := by omega
          rw [if_neg (by rw [hr]; exact i4), hc, hr, ix, s_bitM hd (by rw [d8]; omega) (by omega), bd1_s, d8, m8, decide_eq_true (show X ≤ (x : Int) ∧ Y ≤ (y : Int) by omega), Int.toNat_natCast, Int.toNat_natCast, decide_eq_true (show c < a ∧ r < rows by omega), Bool.true_and, Bool.true_and]
          cases ib (nI (B (r * rb + c / 8))) (7 - c % 8) <;> rfl
theorem s_pictureM {M : im_M} {W H a s : Nat} {D : Nat → Nat → Bool} {wy : Int32} {X Y : Int} {B : Nat → Nat} (q : DR M W H D) (hwy : im_i M 89 3 = wy) (hw2 : wy = 0 ∨ wy = 2) (hX : -4096 ≤ X ∧ X ≤ 4096) (hY : -4096 ≤ Y ∧ Y ≤ 4096) (ha : 1 ≤ a ∧ a ≤ 1024) (hd : DFT M s B) (hs : s ≤ 200) (hm : s % ((a + 7) / 8) = 0) : ed (f_MDotRows_picture (iZ X) (iZ Y) (nI a) M) (DRW M W H D (picB X Y a ((a + 7) / 8) (s / ((a + 7) / 8)) B) wy) := by
  unfold f_MDotRows_picture f_MDotRows_at
  have r1 : f_MDotRows_isNot (nI a) 1 2048 M = some 0 := by rw [iZ_nI]; exact isnZ (a := 1) (b := 2048) (by omega) (by omega) (by omega)
  have erb : (nI a + 7) / 8 = nI ((a + 7) / 8) := by
    rw [show nI a + 7 = nI (a + 7) from nI_add _ 7, show (8 : Int32) = nI 8 from rfl, nI_div (by omega) (by omega) (by omega)]
  have nz : ¬ nI ((a + 7) / 8) = 0 := nI_z (by omega) (by omega)
  have er : nI s - nI s / nI ((a + 7) / 8) * nI ((a + 7) / 8) = nI (s % ((a + 7) / 8)) := nI_rem (by omega) (by omega) (by omega)
  simp only [jn0]
  rw [noPlZ hX hY, bd1_s, if_neg (fun z => z rfl), r1, bd1_s, if_pos rfl, erb, gd_pos nz, hd.1, er, hm, if_pos (show nI 0 = 0 from rfl), bd1_s]
  rw [if_pos (show im_i (im_setI M 89 0 0) 89 0 ≤ 0 by show (0 : Int32) ≤ 0; decide), bd1_s]
  generalize hN : im_setI (im_setI (im_setI (im_setI (im_setI (im_setI M 89 0 0) 89 10 (iZ X)) 89 11 (iZ Y)) 89 12 (nI a)) 89 13 0) 89 14 0 = N
  have fN : fr 0 [(89, 0), (89, 10), (89, 11), (89, 12), (89, 13), (89, 14)] M N := by
    rw [← hN]
    exact fr_F (by decide) (fr_F (by decide) (fr_F (by decide) (fr_F (by decide) (fr_F (by decide) (fr_F (by decide) fr_refl)))))
  have fat : FAT N X Y (a : Int) 0 0 := by rw [← hN]; exact ⟨rfl, rfl, iZ_nI, rfl, rfl⟩
  have qN : DR N W H D := DR_fr fN (by decide +kernel) q
  apply bd2_mk
  refine ed_mono (s_draw (B := picB X Y a ((a + 7) / 8) (s / ((a + 7) / 8)) B) (fig := 6) qN ((fN.1 89 3 (by decide) (by decide)).trans hwy) hw2 (fun M' f' x y hx hy => ?_)) ?_
  · have := qN.1
    refine bl_picture (v13 := 0) (v14 := 0) ⟨?_, ?_, ?_, ?_, ?_⟩ (DFT_fr f' (by decide +kernel) (DFT_fr fN (by decide +kernel) hd)) hs hX hY ha (by omega) (by omega)
    · rw [f'.1 89 10 (by decide) (by decide)]; exact fat.1
    · rw [f'.1 89 11 (by decide) (by decide)]; exact fat.2.1
    · rw [f'.1 89 12 (by decide) (by decide)]; exact fat.2.2.1
    · rw [f'.1 89 13 (by decide) (by decide)]; exact fat.2.2.2.1
    · rw [f'.1 89 14 (by decide) (by decide)]; exact fat.2.2.2.2
  · rintro ⟨x19, M19⟩ ⟨h1, h2, h3⟩
    exact ed_mk ⟨h1, h2, fr_tr (fr_mono (by decide) (by decide) h3) (fr_mono (by decide) (by decide) fN)⟩
/-- the steps of a dot -/
theorem s_al {M : im_M} {X Y : Int} {q x y : Nat} (e1 : im_i M 89 10 = iZ X) (e2 : im_i M 89 11 = iZ Y) (e15 : im_i M 89 15 = nI q) (hq : q < 4) : f_MDotRows_along (nI x) (nI y) M = some (iZ (alQ q X Y x y)) ∧ f_MDotRows_across (nI x) (nI y) M = some (iZ (acQ q X Y x y)) := by
  have k0 : (nI q = 0) = (q = 0) := nIe (c := 0) (by omega) (by omega)
  have k1 : (nI q = 1) = (q = 1) := nIe (c := 1) (by omega) (by omega)
  have k2 : (nI q = 2) = (q = 2) := nIe (c := 2) (by omega) (by omega)
  unfold f_MDotRows_along f_MDotRows_across alQ acQ
  rw [e1, e2, e15, iZ_nI (n := x), iZ_nI (n := y), iZ_sub, iZ_sub, iZ_sub, iZ_sub]
  simp only [k0, k1, k2]
  have : q = 0 ∨ q = 1 ∨ q = 2 ∨ q = 3 := by omega
  rcases this with rfl | rfl | rfl | rfl
  · exact ⟨rfl, rfl⟩
  · exact ⟨rfl, rfl⟩
  · exact ⟨rfl, rfl⟩
  · exact ⟨rfl, rfl⟩
theorem al_b {q x y : Nat} {X Y : Int} (hX : -4096 ≤ X ∧ X ≤ 4096) (hY : -4096 ≤ Y ∧ Y ≤ 4096) (hx : x < 512) (hy : y < 512) : (-4607 ≤ alQ q X Y x y ∧ alQ q X Y x y ≤ 4607) ∧ (-4607 ≤ acQ q X Y x y ∧ acQ q X Y x y ≤ 4607) := by
  unfold alQ acQ
  repeat' split
  all_goals omega
/-- a figure of steps -/
def qB (q : Nat) (X Y : Int) (T : Nat → Nat → Bool) (x y : Nat) : Bool := decide (0 ≤ alQ q X Y x y ∧ 0 ≤ acQ q X Y x y) && T (alQ q X Y x y).toNat (acQ q X Y x y).toNat
