/-! TEXTS BY THE REFERENCE -/
theorem s_inText {M : im_M} {f wd hg gp p ps s i j : Nat} {B : Nat → Nat} {C : Nat → Int32} (e12 : im_i M 89 12 = nI p) (e13 : im_i M 89 13 = nI ps) (e16 : im_i M 89 16 = nI f) (hf : FNT (im_i M 93) f wd hg gp) (hC : ∀ k, k < 32768 → im_i M 94 k = C k) (hd : DFT M s B) (hs : s ≤ 200) (hp : 1 ≤ p ∧ p ≤ 10) (hps : 1 ≤ ps ∧ ps ≤ 10) (hi : i ≤ 5000) (hj : j ≤ 5000) : f_MDotRows_inText (nI i) (nI j) M = some (if txT C B f wd hg (wd + gp) p ps s i j = true then 1 else 0) := by
  obtain ⟨f4, s0, s1, s2, w1, w2, g1, g2, gp2⟩ := hf
  have j0 : (3 : Int32) * nI f = nI (3 * f) := nI_m 3
  have j1 : nI (3 * f) + 1 = nI (3 * f + 1) := nI_add _ 1
  have j2 : nI (3 * f) + 2 = nI (3 * f + 2) := nI_add _ 2
  have k0 : Int32.toNatClampNeg (nI (3 * f)) = 3 * f := nI_clamp (by omega)
  have k1 : Int32.toNatClampNeg (nI (3 * f + 1)) = 3 * f + 1 := nI_clamp (by omega)
  have k2 : Int32.toNatClampNeg (nI (3 * f + 2)) = 3 * f + 2 := nI_clamp (by omega)
  have dp : nI i / nI p = nI (i / p) := nI_div (by omega) (by omega) (by omega)
  have dq : nI j / nI ps = nI (j / ps) := nI_div (by omega) (by omega) (by omega)
  have eT : nI wd + nI gp = nI (wd + gp) := nI_add wd gp
  have ip : i / p ≤ i := Nat.div_le_self _ _
  have jp : j / ps ≤ j := Nat.div_le_self _ _
  have dT : nI (i / p) / nI (wd + gp) = nI (i / p / (wd + gp)) := nI_div (Nat.lt_of_le_of_lt ip (by omega)) (by omega) (by omega)
  have mT : nI (i / p) - nI (i / p / (wd + gp)) * nI (wd + gp) = nI (i / p % (wd + gp)) := by rw [← dT]; exact nI_rem (Nat.lt_of_le_of_lt ip (by omega)) (by omega) (by omega)
  have n12 : ¬ nI p = 0 := nI_z (by omega) (by omega)
  have n13 : ¬ nI ps = 0 := nI_z (by omega) (by omega)
  have nT : ¬ nI (wd + gp) = 0 := nI_z (by omega) (by omega)
  have ik : i / p / (wd + gp) ≤ i / p := Nat.div_le_self _ _
  have im := Nat.mod_lt (i / p) (show 0 < wd + gp by omega)
  have g30 : ∀ {Z : Type} (z : Option Z), gd (inb (nI (3 * f)) 12) z = z := fun z => gd_pos (by rw [inb_nI (by omega)]; omega)
  have g31 : ∀ {Z : Type} (z : Option Z), gd (inb (nI (3 * f + 1)) 12) z = z := fun z => gd_pos (by rw [inb_nI (by omega)]; omega)
  have g32 : ∀ {Z : Type} (z : Option Z), gd (inb (nI (3 * f + 2)) 12) z = z := fun z => gd_pos (by rw [inb_nI (by omega)]; omega)
  have ikb : i / p / (wd + gp) ≤ 5000 := Nat.le_trans ik (Nat.le_trans ip hi)
  have jpb : j / ps ≤ 5000 := Nat.le_trans jp hj
  unfold f_MDotRows_inText
  simp only [e12, e13, e16, j0, j1, j2, k0, k1, k2, s0, s1, s2, dp, dq, eT, dT, mT, g30, g31, g32, gd_pos n12, gd_pos n13, gd_pos nT, hd.1]
  unfold txT
  generalize i / p / (wd + gp) = kc at *
  generalize i / p % (wd + gp) = cc at *
  generalize j / ps = r at *
  have l1 : (nI s ≤ nI kc) = (s ≤ kc) := nIl (by omega) (by omega)
  have l2 : (nI wd ≤ nI cc) = (wd ≤ cc) := nIl (by omega) (by omega)
  have l3 : (nI hg ≤ nI r) = (hg ≤ r) := nIl (by omega) (by omega)
  simp only [l1, l2, l3]
  by_cases a1 : s ≤ kc
  · rw [if_pos a1, decide_eq_false (show ¬ (kc < s ∧ cc < wd ∧ r < hg) by omega), Bool.false_and]; rfl
  · rw [if_neg a1]
    by_cases a2 : wd ≤ cc
    · rw [if_pos a2, decide_eq_false (show ¬ (kc < s ∧ cc < wd ∧ r < hg) by omega), Bool.false_and]; rfl
    · rw [if_neg a2]
      by_cases a3 : hg ≤ r
      · rw [if_pos a3, decide_eq_false (show ¬ (kc < s ∧ cc < wd ∧ r < hg) by omega), Bool.false_and]; rfl
      · obtain ⟨b1, b2⟩ := hd.2.2 kc (by omega)
        have c1 : Int32.toNatClampNeg (nI kc) = kc := nI_clamp (by omega)
        have c2 : ((8192 : Int32) * nI f + (32 : Int32) * nI (B kc)) + nI r = nI (8192 * f + 32 * B kc + r) := by rw [nI_m, nI_m, nI_add, nI_add]
        have c3 : (nI wd - 1) - nI cc = iZ ((wd - 1 - cc : Nat) : Int) := by rw [nI_s1 (by omega) (by omega), iZ_nI]
        rw [if_neg a3, gd_pos (by rw [inb_nI (by omega)]; omega), c1, b2, c2, gd_pos (by rw [inb_nI (by omega)]; omega), nI_clamp (by omega), hC _ (by omega), c3]
        simp only [and1_1 (v := C (8192 * f + 32 * B kc + r)) (s := wd - 1 - cc) (by omega)]
        rw [decide_eq_true (show kc < s ∧ cc < wd ∧ r < hg by omega), Bool.true_and]
        unfold txC
        by_cases b : ib (C (8192 * f + 32 * B kc + r)) (wd - 1 - cc) = true
        · rw [if_neg (fun z => z b), if_pos b]
        · rw [if_pos b, if_neg b]
/-- a figure of steps, by the reference -/
theorem bl_steps {M : im_M} {X Y : Int} {q x y : Nat} {T : Nat → Nat → Bool} {fig : Int32} (e1 : im_i M 89 10 = iZ X) (e2 : im_i M 89 11 = iZ Y) (e15 : im_i M 89 15 = nI q) (hq : q < 4) (hX : -4096 ≤ X ∧ X ≤ 4096) (hY : -4096 ≤ Y ∧ Y ≤ 4096) (hx : x < 512) (hy : y < 512) (hfig : ¬ fig = 0 ∧ ¬ fig = 1 ∧ ¬ fig = 2 ∧ ¬ fig = 6) (hT : ∀ i j : Nat, i ≤ 4607 → j ≤ 4607 → (if ¬ fig = 3 then if ¬ fig = 4 then bd1 (f_MDotRows_inSquare (nI i) (nI j) M) fun (x3 : Int32) => gd (x3 = 0 ∨ x3 = 1) <| some x3 else gd (inb (nI i) 5200) <| jn0 (fun (_ : Unit) => some 0) fun k4 => if (im_i M 95 (Int32.toNatClampNeg (nI i))) = 0 then k4 () else if (im_i M 89 13) ≤ nI j then k4 () else some 1 else bd1 (f_MDotRows_inText (nI i) (nI j) M) fun (x5 : Int32) => gd (x5 = 0 ∨ x5 = 1) <| some x5) = some (if T i j = true then 1 else 0)) : f_MDotRows_belongs fig (nI x) (nI y) M = some (if qB q X Y T x y = true then 1 else 0) := by
  obtain ⟨a1, a2⟩ := s_al (x := x) (y := y) e1 e2 e15 hq
  have b := al_b (q := q) hX hY hx hy
  unfold f_MDotRows_belongs
  rw [if_pos hfig.1, if_pos hfig.2.1, if_pos hfig.2.2.1, if_pos hfig.2.2.2, a1, bd1_s, a2, bd1_s]
  unfold qB
  generalize alQ q X Y x y = u at *
  generalize acQ q X Y x y = v at *
  have z0 : (0 : Int32) = iZ 0 := rfl
  have c1 : (iZ u < 0) = (u < 0) := by rw [z0, iZ_lt (by omega) (by omega)]
  have c2 : ((0 : Int32) ≤ iZ v) = (0 ≤ v) := by rw [z0, iZ_le (by omega) (by omega)]
  simp only [c1, c2]
  by_cases d1 : u < 0
  · rw [if_pos d1, decide_eq_false (show ¬ (0 ≤ u ∧ 0 ≤ v) by omega)]; rfl
  · rw [if_neg d1]
    by_cases d2 : 0 ≤ v
    · obtain ⟨i, rfl⟩ : ∃ i : Nat, u = (i : Int) := ⟨u.toNat, (Int.toNat_of_nonneg (by omega)).symm⟩
      obtain ⟨j, rfl⟩ : ∃ j : Nat, v = (j : Int) := ⟨v.toNat, (Int.toNat_of_nonneg d2).symm⟩
      rw [if_pos d2, ← iZ_nI, ← iZ_nI, hT i j (by omega) (by omega), decide_eq_true (show 0 ≤ (i : Int) ∧ 0 ≤ (j : Int) by omega), Bool.true_and, Int.toNat_natCast, Int.toNat_natCast]
    · rw [if_neg d2, decide_eq_false (show ¬ (0 ≤ u ∧ 0 ≤ v) by omega)]; rfl
theorem s_textM {M : im_M} {W H q f wd hg gp p ps s : Nat} {D : Nat → Nat → Bool} {wy : Int32} {X Y : Int} {B : Nat → Nat} {C : Nat → Int32} (hD : DR M W H D) (hwy : im_i M 89 3 = wy) (hw2 : wy = 0 ∨ wy = 2) (hX : -4096 ≤ X ∧ X ≤ 4096) (hY : -4096 ≤ Y ∧ Y ≤ 4096) (hf : FNT (im_i M 93) f wd hg gp) (hC : ∀ k, k < 32768 → im_i M 94 k = C k) (hp : 1 ≤ p ∧ p ≤ 10) (hps : 1 ≤ ps ∧ ps ≤ 10) (hq : q < 4) (hd : DFT M s B) (hs : s ≤ 200) : ed (f_MDotRows_text (iZ X) (iZ Y) (nI f) ((16 : Int32) * nI p + nI ps) (nI q) M) (DRW M W H D (qB q X Y (txT C B f wd hg (wd + gp) p ps s)) wy) := by
  have f4 := hf.1
  have e16 : (16 : Int32) * nI p + nI ps = nI (16 * p + ps) := by rw [nI_m, nI_add]
  have d16 : nI (16 * p + ps) / 16 = nI p := by rw [show (16 : Int32) = nI 16 from rfl, nI_div (by omega) (by omega) (by omega)]; congr 1; omega
  have m16 : nI (16 * p + ps) - nI p * 16 = nI ps := by rw [show (16 : Int32) = nI 16 from rfl, nI_mul, nI_sb (by omega)]; congr 1; omega
  have nn : ∀ (v a b : Nat), a ≤ v ∧ v ≤ b → b ≤ 100000 → f_MDotRows_isNot (nI v) (nI a) (nI b) M = some 0 := fun v a b h1 h2 => by
    rw [iZ_nI (n := v), iZ_nI (n := a), iZ_nI (n := b)]
    exact isnZ (by omega) (by omega) (by omega)
  have r1 : f_MDotRows_isNot (nI q) 0 3 M = some 0 := nn q 0 3 (by omega) (by omega)
  have r2 : f_MDotRows_isNot (nI f) 0 3 M = some 0 := nn f 0 3 (by omega) (by omega)
  have r3 : f_MDotRows_isNot (nI (16 * p + ps)) 0 255 M = some 0 := nn _ 0 255 (by omega) (by omega)
  have r4 : f_MDotRows_isNot (nI p) 1 10 M = some 0 := nn p 1 10 (by omega) (by omega)
  have r5 : f_MDotRows_isNot (nI ps) 1 10 M = some 0 := nn ps 1 10 (by omega) (by omega)
  unfold f_MDotRows_text f_MDotRows_at
  simp only [jn0]
  rw [e16, d16, m16, noPlZ hX hY, bd1_s, if_neg (fun z => z rfl), r1, bd1_s, if_neg (fun z => z rfl), r2, bd1_s, if_neg (fun z => z rfl), r3, bd1_s, if_neg (fun z => z rfl), r4, bd1_s, if_neg (fun z => z rfl), r5, bd1_s, if_pos rfl, bd1_s]
  rw [if_pos (show im_i (im_setI M 89 0 0) 89 0 ≤ 0 by show (0 : Int32) ≤ 0; decide), bd1_s]
  generalize hN : im_setI (im_setI (im_setI (im_setI (im_setI (im_setI (im_setI (im_setI M 89 0 0) 89 10 (iZ X)) 89 11 (iZ Y)) 89 12 (nI p)) 89 13 (nI ps)) 89 14 0) 89 16 (nI f)) 89 15 (nI q) = N
  have fN : fr 0 [(89, 0), (89, 10), (89, 11), (89, 12), (89, 13), (89, 14), (89, 15), (89, 16)] M N := by
    rw [← hN]
    exact fr_F (by decide) (fr_F (by decide) (fr_F (by decide) (fr_F (by decide) (fr_F (by decide) (fr_F (by decide) (fr_F (by decide) (fr_F (by decide) fr_refl)))))))
  have n10 : im_i N 89 10 = iZ X := by rw [← hN]; rfl
  have n11 : im_i N 89 11 = iZ Y := by rw [← hN]; rfl
  have n12 : im_i N 89 12 = nI p := by rw [← hN]; rfl
  have n13 : im_i N 89 13 = nI ps := by rw [← hN]; rfl
  have n15 : im_i N 89 15 = nI q := by rw [← hN]; rfl
  have n16 : im_i N 89 16 = nI f := by rw [← hN]; rfl
  have qN : DR N W H D := DR_fr fN (by decide +kernel) hD
  apply bd2_mk
  refine ed_mono (s_draw (B := qB q X Y (txT C B f wd hg (wd + gp) p ps s)) (fig := 3) qN ((fN.1 89 3 (by decide) (by decide)).trans hwy) hw2 (fun M' f' x y hx hy => ?_)) ?_
  · have := qN.1
    have k : ∀ j, im_i M' 89 j = im_i N 89 j := fun j => f'.1 89 j (by decide) (by simp)
    refine bl_steps ((k 10).trans n10) ((k 11).trans n11) ((k 15).trans n15) hq hX hY (by omega) (by omega) (by decide) (fun i j hi hj => ?_)
    rw [if_neg (fun z => z rfl), s_inText (C := C) ((k 12).trans n12) ((k 13).trans n13) ((k 16).trans n16) (by rw [fr_c f' 93 (by decide) (by decide), fr_c fN 93 (by decide) (by decide)]; exact hf) (fun k hk => by rw [f'.1 94 k (by decide) (by simp), fN.1 94 k (by decide) (by simp)]; exact hC k hk) (DFT_fr f' (by decide +kernel) (DFT_fr fN (by decide +kernel) hd)) hs hp hps (by omega) (by omega), bd1_s]
    cases txT C B f wd hg (wd + gp) p ps s i j <;> rfl
  · rintro ⟨x19, M19⟩ ⟨h1, h2, h3⟩
    exact ed_mk ⟨h1, h2, fr_tr (fr_mono (by decide) (by decide) h3) (fr_mono (by decide) (by decide) fN)⟩
