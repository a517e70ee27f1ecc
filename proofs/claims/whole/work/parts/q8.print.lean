/-! CALLS: PRINT -/
abbrev APc : Nat := 54490964659535872 ||| 2 ^ 29 ||| 2 ^ 30 ||| 2 ^ 66
abbrev FPc : List (Nat × Nat) := [(28, 0), (28, 1), (28, 2), (28, 3), (31, 2), (31, 6), (31, 9), (38, 1), (38, 3), (38, 6), (39, 5), (43, 10), (43, 11), (43, 12), (43, 13), (56, 5), (56, 6), (56, 7), (59, 0), (0, 9)]
abbrev APr : Nat := 175455518355742412686488359330656550912 ||| 2 ^ 90 ||| 2 ^ 136
abbrev FPr : List (Nat × Nat) := [(71, 0), (89, 0), (89, 1), (89, 2), (89, 3), (89, 7), (89, 10), (89, 11), (89, 12), (89, 13), (89, 14), (89, 15), (89, 16), (96, 3), (96, 5), (96, 8), (96, 10), (108, 0), (108, 4), (108, 7), (108, 8), (108, 9), (108, 13), (108, 16), (108, 19), (69, 0), (69, 9)]
abbrev ALc : Nat := 54490964659535872 ||| 2 ^ 66
abbrev FLc : List (Nat × Nat) := [(28, 2), (28, 3), (31, 2), (31, 6), (31, 9), (38, 1), (38, 3), (38, 6), (39, 5), (43, 10), (43, 11), (43, 12), (43, 13), (56, 5), (56, 6), (56, 7)]
abbrev ALr : Nat := 175455518355742412686488359330656550912 ||| 2 ^ 136
abbrev FLr : List (Nat × Nat) := [(71, 0), (89, 0), (89, 3), (89, 7), (89, 10), (89, 11), (89, 12), (89, 13), (89, 14), (89, 15), (89, 16), (96, 3), (96, 5), (96, 8), (96, 10), (108, 0), (108, 4), (108, 7), (108, 8), (108, 9), (108, 13), (108, 16), (108, 19)]
theorem ORD_fr {Mc Mr Nc Nr : im_M} {a n : Nat} (fc : fr ALc FLc Mc Nc) (fR : fr ALr FLr Mr Nr) (h : ORD Mc Mr a n) : ORD Nc Nr a n := by
  have c13 : im_i Nc 13 = im_i Mc 13 := fr_c fc 13 (by decide) (by decide)
  have c14 : im_i Nc 14 = im_i Mc 14 := fr_c fc 14 (by decide) (by decide)
  have c87 : im_i Nr 87 = im_i Mr 87 := fr_c fR 87 (by decide) (by decide)
  have c88 : im_i Nr 88 = im_i Mr 88 := fr_c fR 88 (by decide) (by decide)
  have c71 : im_i Nr 71 37 = im_i Mr 71 37 := fR.1 71 37 (by decide) (by decide)
  unfold ORD at h ⊢
  rw [c13, c14, c87, c88, c71]
  exact h
theorem s_renew {w : Bool} {M : im_M} {W H : Nat} (hW : 1 ≤ W ∧ W ≤ 512 ∧ 1 ≤ H ∧ H ≤ 512) : ed (f_HSheet_renew w (nI W) (nI H) M) (fun R => DH w R W H (fun _ _ => false) ∧ fr (2 ^ 29 ||| 2 ^ 30) [(28, 0), (28, 1)] M R) := by
  unfold f_HSheet_renew f_Arrays_fill2
  have f0 : fr (2 ^ 29 ||| 2 ^ 30) [(28, 0), (28, 1)] M (im_setI (im_setI M 28 0 (nI W)) 28 1 (nI H)) := fr_F (by decide) (fr_F (by decide) fr_refl)
  apply bd1_mk
  apply bd1_mk
  refine ed_mono (lp_inv (fun m (s : Int32 × im_M) => ∃ k : Nat, k + m = 4096 ∧ s.1 = nI k ∧ (∀ j, j < k → im_l s.2 (sw w) j = 0) ∧ im_i s.2 28 0 = nI W ∧ im_i s.2 28 1 = nI H ∧ fr (2 ^ 29 ||| 2 ^ 30) [(28, 0), (28, 1)] M s.2) (Q := fun R => (∀ j, j < 4096 → im_l R (sw w) j = 0) ∧ im_i R 28 0 = nI W ∧ im_i R 28 1 = nI H ∧ fr (2 ^ 29 ||| 2 ^ 30) [(28, 0), (28, 1)] M R) ?_ (k := 4096) ⟨0, by omega, rfl, fun j hj => absurd hj (Nat.not_lt_zero _), by rw [sk1 (by omega)]; exact hit, hit, f0⟩) ?_
  · rintro n ⟨i, M1⟩ ⟨k, hk, e1, e2, e3, e4, e5⟩
    replace e1 : i = nI k := e1
    replace e2 : ∀ j, j < k → im_l M1 (sw w) j = 0 := e2
    replace e3 : im_i M1 28 0 = nI W := e3
    replace e4 : im_i M1 28 1 = nI H := e4
    replace e5 : fr (2 ^ 29 ||| 2 ^ 30) [(28, 0), (28, 1)] M M1 := e5
    subst e1
    show ed (f_Arrays_fill2_L6 w 0 4096 (nI k) M1) _
    unfold f_Arrays_fill2_L6
    have k0 : ((4096 : Int32) ≤ nI k) = (4096 ≤ k) := nIl (x := 4096) (by omega) (by omega)
    simp only [k0]
    by_cases h : 4096 ≤ k
    · rw [if_pos h]
      exact lpo_r ⟨fun j hj => e2 j (by omega), e3, e4, e5⟩
    · rw [if_neg h, gd_pos (by rw [inb_nI (by omega)]; omega), nI_clamp (by omega)]
      have bs : (2 ^ 29 ||| 2 ^ 30).testBit (sw w) = true := by cases w <;> decide
      refine lpo_l (n - 1) (by omega) ⟨k + 1, by omega, nI_add k 1, fun j hj => ?_, e3, e4, fr_L bs e5⟩
      show im_l (im_setL M1 (sw w) k 0) (sw w) j = 0
      rw [ml_L, if_pos rfl]
      by_cases c : j = k
      · rw [if_pos c]
      · rw [if_neg c, e2 j (by omega)]
  · rintro R ⟨r1, r2, r3, r4⟩
    refine ed_mk (ed_mk ⟨⟨hW, ⟨r2, r3⟩, fun x y z => (by cases z), fun y j b h1 h2 h3 => ?_⟩, r4⟩)
    rw [r1 _ (by omega), lb_0]
theorem s_sheetM {M : im_M} {W H : Nat} (hW : 1 ≤ W ∧ W ≤ 512 ∧ 1 ≤ H ∧ H ≤ 512) : ed (f_MDotRows_sheet (nI W) (nI H) M) (fun R => DR R W H (fun _ _ => false) ∧ fr (2 ^ 90) [(89, 0), (89, 1), (89, 2)] M R) := by
  unfold f_MDotRows_sheet
  have k1 : (nI W < 1) = (W < 1) := nIlt (c := 1) (by omega) (by omega)
  have k2 : ((1024 : Int32) < nI W) = (1024 < W) := nIlt (x := 1024) (by omega) (by omega)
  have k3 : (nI H < 1) = (H < 1) := nIlt (c := 1) (by omega) (by omega)
  have k4 : (nI H ≤ 1024) = (H ≤ 1024) := nIl (c := 1024) (by omega) (by omega)
  simp only [k1, k2, k3, k4]
  rw [if_neg (show ¬ W < 1 by omega), if_neg (show ¬ 1024 < W by omega), if_neg (show ¬ H < 1 by omega), if_pos (show H ≤ 1024 by omega), if_pos (show im_i (im_setI M 89 0 0) 89 0 ≤ 0 by rw [hit]; decide)]
  have f0 : fr (2 ^ 90) [(89, 0), (89, 1), (89, 2)] M (im_setI (im_setI (im_setI M 89 0 0) 89 1 (nI W)) 89 2 (nI H)) := fr_F (by decide) (fr_F (by decide) (fr_F (by decide) fr_refl))
  apply bd1_mk
  refine ed_mono (lp_inv (fun m (s : Int32 × im_M) => ∃ k : Nat, k + m = 32768 ∧ s.1 = nI k ∧ (∀ j, j < k → im_i s.2 90 j = 0) ∧ im_i s.2 89 1 = nI W ∧ im_i s.2 89 2 = nI H ∧ fr (2 ^ 90) [(89, 0), (89, 1), (89, 2)] M s.2) (Q := fun R => (∀ j, j < 32768 → im_i R 90 j = 0) ∧ im_i R 89 1 = nI W ∧ im_i R 89 2 = nI H ∧ fr (2 ^ 90) [(89, 0), (89, 1), (89, 2)] M R) ?_ (k := 32768) ⟨0, by omega, rfl, fun j hj => absurd hj (Nat.not_lt_zero _), by rw [sk1 (by omega)]; exact hit, hit, f0⟩) ?_
  · rintro n ⟨i, M1⟩ ⟨k, hk, e1, e2, e3, e4, e5⟩
    replace e1 : i = nI k := e1
    replace e2 : ∀ j, j < k → im_i M1 90 j = 0 := e2
    replace e3 : im_i M1 89 1 = nI W := e3
    replace e4 : im_i M1 89 2 = nI H := e4
    replace e5 : fr (2 ^ 90) [(89, 0), (89, 1), (89, 2)] M M1 := e5
    subst e1
    show ed (f_MDotRows_sheet_L53 (nI k) M1) _
    unfold f_MDotRows_sheet_L53
    have k0 : ((32768 : Int32) ≤ nI k) = (32768 ≤ k) := nIl (x := 32768) (by omega) (by omega)
    simp only [k0]
    by_cases h : 32768 ≤ k
    · rw [if_pos h]
      exact lpo_r ⟨fun j hj => e2 j (by omega), e3, e4, e5⟩
    · rw [if_neg h, gd_pos (by rw [inb_nI (by omega)]; omega), nI_clamp (by omega)]
      refine lpo_l (n - 1) (by omega) ⟨k + 1, by omega, nI_add k 1, fun j hj => ?_, by rw [sk1 (by omega)]; exact e3, by rw [sk1 (by omega)]; exact e4, fr_I (by decide) e5⟩
      show im_i (im_setI M1 90 k 0) 90 j = 0
      by_cases c : j = k
      · subst c; exact hit
      · rw [sk1 (fun z => c z.2)]; exact e2 j (by omega)
  · rintro R ⟨r1, r2, r3, r4⟩
    refine ed_mk ⟨⟨hW, ⟨r2, r3⟩, fun x y z => (by cases z), fun y j b h1 h2 h3 => ?_⟩, r4⟩
    rw [r1 _ (by omega), ib_0]
theorem s_labelM {M : im_M} {m k t : Nat} (h : im_i M 71 35 = nI m) (hm : m ≤ 12) (hk : k < m) (ht : t ≤ 3) : f_MScriptRows_label (nI k) (nI t) M = some (im_i M 86 (4 * k + t), im_setI M 71 0 0) := by
  unfold f_MScriptRows_label
  have k1 : (nI t < 0) = (t < 0) := nIlt (c := 0) (by omega) (by omega)
  have k2 : (nI t ≤ 3) = (t ≤ 3) := nIl (c := 3) (by omega) (by omega)
  have k3 : (nI k < 0) = (k < 0) := nIlt (c := 0) (by omega) (by omega)
  have e4 : (4 : Int32) * nI k + nI t = nI (4 * k + t) := by rw [nI_m, nI_add]
  simp only [k1, k2, k3, jn0]
  rw [if_neg (show ¬ t < 0 by omega), if_pos ht, if_pos (show im_i (im_setI M 71 0 0) 71 0 ≤ 0 by rw [hit]; decide), if_neg (show ¬ k < 0 by omega), sk1 (by omega), h, if_nIlt (by omega) (by omega), if_pos hk, e4, gd_pos (by rw [inb_nI (by omega)]; omega), nI_clamp (by omega), sk1 (by omega)]
/-- the orders of a label, one after another, by both -/
theorem two_orders {w : Bool} {Bc Br : im_M} {W H f c n k m : Nat} (hO : ∀ i, i < c → ORD Bc Br (f + i) n) (hF : RF (im_i Bc 57) (im_i Br 93) (im_i Bc 58) (im_i Br 94)) (hp : PWL Bc) (ht : TBR Br) (t97 : im_i Br 97 = im_i mm_341 97) (t98 : im_i Br 98 = im_i mm_341 98) (t99 : im_i Br 99 = im_i mm_341 99) (hc : c ≤ 120) (h35 : im_i Br 71 35 = nI m) (hm : m ≤ 12) (hk : k < m) (h86 : im_i Br 86 (4 * k + 2) = nI f) (hf : f ≤ 120) : ∀ (j i : Nat) (D : Nat → Nat → Bool) (Mc Mr : im_M) (x : Nat), i + j = c → x ≤ i → DH w Mc W H D → DR Mr W H D → im_i Mc 0 9 = nI c → im_i Mr 69 9 = nI c → fr ALc FLc Bc Mc → fr ALr FLr Br Mr → (∀ u, u < i → im_i Mr 136 u = im_i Mc 66 u) → B8 (im_i Mr 120) → ∃ (y : Nat) (D' : Nat → Nat → Bool), y ≤ c ∧ ∃ rc rr : im_M, lp (uc3 (f_H_print_L98 w (nI f))) (nI x, nI i, Mc) = some (nI y, rc) ∧ lp (uc3 (f_M_print_L72 (nI k))) (nI x, nI i, Mr) = some (nI y, rr) ∧ DH w rc W H D' ∧ DR rr W H D' ∧ im_i rc 0 9 = nI c ∧ im_i rr 69 9 = nI c ∧ fr ALc FLc Bc rc ∧ fr ALr FLr Br rr ∧ (∀ u, u < c → im_i rr 136 u = im_i rc 66 u) ∧ B8 (im_i rr 120) := by
  intro j
  induction j with
  | zero =>
    intro i D Mc Mr x hi hx dc dr c9 r9 fc fR hu hb8
    obtain rfl : i = c := by omega
    refine ⟨x, D, hx, Mc, Mr, lp_r ?_, lp_r ?_, dc, dr, c9, r9, fc, fR, hu, hb8⟩
    · show f_H_print_L98 w (nI f) (nI x) (nI i) Mc = _
      unfold f_H_print_L98
      rw [c9, if_pos (by rw [nIl (by omega) (by omega)]; omega)]
    · show f_M_print_L72 (nI k) (nI x) (nI i) Mr = _
      unfold f_M_print_L72
      rw [r9, if_pos (by rw [nIl (by omega) (by omega)]; omega)]
  | succ j ih =>
    intro i D Mc Mr x hi hx dc dr c9 r9 fc fR hu hb8
    obtain ⟨N, hN⟩ : ∃ N, N = im_setI Mr 71 0 0 := ⟨_, rfl⟩
    have fN : fr ALr FLr Br N := by rw [hN]; exact fr_F (by decide) fR
    have dN : DR N W H D := by rw [hN]; exact DR_fr (show fr 0 [(71, 0)] Mr (im_setI Mr 71 0 0) from fr_F (by decide) fr_refl) (by decide +kernel) dr
    have hF' : RF (im_i Mc 57) (im_i N 93) (im_i Mc 58) (im_i N 94) := by
      rw [fr_c fc 57 (by decide) (by decide), fr_c fc 58 (by decide) (by decide), fr_c fN 93 (by decide) (by decide), fr_c fN 94 (by decide) (by decide)]
      exact hF
    obtain ⟨z, D1, hz, q1, q2⟩ := two_draw (ORD_fr fc fN (hO i (by omega))) dc dN hF' (PWL_fr fc (by decide +kernel) hp) (TBR_fr fN (by decide +kernel) ht) ((fr_c fN 97 (by decide) (by decide)).trans t97) ((fr_c fN 98 (by decide) (by decide)).trans t98) ((fr_c fN 99 (by decide) (by decide)).trans t99)
    obtain ⟨⟨x7, M7⟩, e7, a7, d7⟩ := q1
    obtain ⟨⟨x13, M13⟩, e13, a13, d13⟩ := q2
    replace a7 : x7 = z := a7
    replace a13 : x13 = z := a13
    subst a7 a13
    replace d7 : DH w M7 W H D1 := d7
    replace d13 : DR M13 W H D1 := d13
    have g7 := f_HPen_follow_fr e7
    have g13 := f_M_draw_fr e13
    replace g7 : fr 54490964659535872 [(28, 2), (28, 3), (31, 2), (31, 6), (31, 9), (38, 1), (38, 3), (38, 6), (39, 5), (43, 10), (43, 11), (43, 12), (43, 13), (56, 5), (56, 6), (56, 7)] Mc M7 := g7
    replace g13 : fr 175455518355742412686488359330656550912 [(71, 0), (89, 0), (89, 3), (89, 7), (89, 10), (89, 11), (89, 12), (89, 13), (89, 14), (89, 15), (89, 16), (96, 3), (96, 5), (96, 8), (96, 10), (108, 0), (108, 4), (108, 7), (108, 8), (108, 9), (108, 13), (108, 16), (108, 19)] N M13 := g13
    have nx : ∃ y, y ≤ x + 1 ∧ ((if x13 = (-1) then nI x else (nI x + 1)) : Int32) = nI y ∧ ((if 0 ≤ x13 then (nI x + 1) else nI x) : Int32) = nI y := by
      rcases hz with rfl | ⟨cc, c1, rfl⟩
      · exact ⟨x, by omega, by rw [if_pos rfl], by rw [if_neg (by decide)]⟩
      · have z0 : (0 : Int32) ≤ nI cc := by rw [show (0 : Int32) = nI 0 from rfl, nIl (by omega) (by omega)]; omega
        exact ⟨x + 1, Nat.le_refl _, by rw [if_neg (nI_nm1 (by omega))]; exact nI_add x 1, by rw [if_pos z0]; exact nI_add x 1⟩
    obtain ⟨y, yx, y1, y2⟩ := nx
    have sc : f_H_print_L98 w (nI f) (nI x) (nI i) Mc = some (Sum.inl (nI y, nI (i + 1), im_setI M7 66 i x13)) := by
      unfold f_H_print_L98
      rw [c9, if_neg (by rw [nIl (by omega) (by omega)]; omega), nI_add, e7, bd2_s, gd_pos (by rw [inb_nI (by omega)]; omega), gd_pos (by rw [inb_nI (by omega)]; omega), nI_clamp (by omega), hit, y1]
      exact congrArg (fun u => some (Sum.inl (nI y, u, _))) (nI_add i 1)
    have lb : f_MScriptRows_label (nI k) 2 Mr = some (nI f, N) := by
      have := s_labelM (M := Mr) (t := 2) ((fR.1 71 35 (by decide) (by decide)).trans h35) hm hk (by omega)
      replace this : f_MScriptRows_label (nI k) 2 Mr = some (im_i Mr 86 (4 * k + 2), im_setI Mr 71 0 0) := this
      rw [this, fr_c fR 86 (by decide) (by decide), h86, ← hN]
    have sr : f_M_print_L72 (nI k) (nI x) (nI i) Mr = some (Sum.inl (nI y, nI (i + 1), im_setI M13 136 i x13)) := by
      unfold f_M_print_L72
      rw [r9, if_neg (by rw [nIl (by omega) (by omega)]; omega), lb, bd2_s, nI_add, e13, bd2_s, gd_pos (by rw [inb_nI (by omega)]; omega), gd_pos (by rw [inb_nI (by omega)]; omega), nI_clamp (by omega), hit, y2]
      exact congrArg (fun u => some (Sum.inl (nI y, u, _))) (nI_add i 1)
    have fc2 : fr ALc FLc Bc (im_setI M7 66 i x13) := fr_I (by decide) (fr_tr (fr_mono (by decide) (by decide) g7) fc)
    have fr2 : fr ALr FLr Br (im_setI M13 136 i x13) := fr_I (by decide) (fr_tr (fr_mono (by decide) (by decide) g13) fN)
    obtain ⟨y', D', h1, rc, rr, l1, l2, rest⟩ := ih (i + 1) D1 (im_setI M7 66 i x13) (im_setI M13 136 i x13) y (by omega) (by omega) (DH_fr (show fr (2 ^ 66) [] M7 _ from fr_I (by decide) fr_refl) (by decide +kernel) d7) (DR_fr (show fr (2 ^ 136) [] M13 _ from fr_I (by decide) fr_refl) (by decide +kernel) d13) (by rw [sk1 (by omega), g7.1 0 9 (by decide) (by decide)]; exact c9) (by rw [sk1 (by omega), g13.1 69 9 (by decide) (by decide), hN, sk1 (by omega)]; exact r9) fc2 fr2 (fun u hu2 => by
      by_cases e : u = i
      · subst e
        rw [hit, hit]
      · rw [sk1 (fun z => e z.2), sk1 (fun z => e z.2), g13.1 136 u (by decide) (by simp), g7.1 66 u (by decide) (by simp), hN, sk1 (by omega)]
        exact hu u (by omega)) (by
      rw [up_o (by decide)]
      exact draw_b8 (ORD_fr fc fN (hO i (by omega))) (PWL_fr fc (by decide +kernel) hp) (TBR_fr fN (by decide +kernel) ht) (by rw [hN, up_o (by decide)]; exact hb8) e13)
    exact ⟨y', D', h1, rc, rr, lp_l sc l1, lp_l sr l2, rest⟩
