/-! THIRTEEN FIGURES, LAID BY THE REFERENCE -/
theorem nm_s {g : Nat → Nat} {c : Nat} (h : g c < 10) : nm g (c + 1) / 10 = nm g c ∧ nm g (c + 1) % 10 = g c := by
  have : nm g (c + 1) = 10 * nm g c + g c := rfl
  omega
theorem nm_12 {g : Nat → Nat} (hg : ∀ i, i < 12 → g i < 10) : ∀ c, c ≤ 12 → nm g c < 1000000000000 := fun c hc => by
  have h1 := nm_lt (f := g) c (fun k hk => by have := hg k (by omega); omega)
  have h2 : 10 ^ c ≤ 10 ^ 12 := Nat.pow_le_pow_right (by omega) hc
  have h3 : 10 ^ 12 = 1000000000000 := by decide
  omega
theorem s_figureL {M : im_M} {g : Nat → Nat} {i : Nat} (hg : ∀ i, i < 12 → g i < 10) (hi : 1 ≤ i ∧ i ≤ 12) : f_MLineRows_figure (lZ ((nm g 12 : Nat) : Int)) (nI i) M = some (nI (g (i - 1))) := by
  have run : ed (lp (uc2 (f_MLineRows_figure_L6 (nI i) M)) (lZ ((nm g 12 : Nat) : Int), 12)) (fun r => r = lZ ((nm g i : Nat) : Int)) := by
    refine lp_inv (fun m (s : Int64 × Int32) => ∃ c : Nat, c = i + m ∧ c ≤ 12 ∧ s.1 = lZ ((nm g c : Nat) : Int) ∧ s.2 = nI c) ?_ (k := 12 - i) ⟨12, by omega, by omega, rfl, rfl⟩
    rintro m ⟨x3, x4⟩ ⟨c, hc, c12, e1, e2⟩
    replace e1 : x3 = lZ ((nm g c : Nat) : Int) := e1
    replace e2 : x4 = nI c := e2
    subst e1 e2
    show ed (f_MLineRows_figure_L6 (nI i) M (lZ ((nm g c : Nat) : Int)) (nI c)) _
    unfold f_MLineRows_figure_L6
    rw [if_nIl (by omega) (by omega)]
    by_cases z : c ≤ i
    · rw [if_pos z]
      obtain rfl : c = i := by omega
      exact lpo_r rfl
    · obtain ⟨d, rfl⟩ : ∃ d, c = d + 1 := ⟨c - 1, by omega⟩
      have b := nm_12 hg (d + 1) c12
      have dv : lZ ((nm g (d + 1) : Nat) : Int) / 10 = lZ ((nm g d : Nat) : Int) := by
        rw [show (10 : Int64) = lZ ((10 : Nat) : Int) from rfl, lZ_divN (by omega) (by omega) (by omega), (nm_s (hg d (by omega))).1]
      rw [if_neg z, dv]
      refine lpo_l (m - 1) (by omega) ⟨d, by omega, by omega, rfl, ?_⟩
      show nI (d + 1) + (-1) = nI d
      rw [← show nI d + 1 = nI (d + 1) from nI_add d 1, Int32.add_assoc]
      show nI d + 0 = nI d
      exact Int32.add_zero _
  obtain ⟨r, hr, rfl⟩ := run
  obtain ⟨d, rfl⟩ : ∃ d, i = d + 1 := ⟨i - 1, by omega⟩
  have b := nm_12 hg (d + 1) hi.2
  have s := nm_s (hg d (by omega))
  unfold f_MLineRows_figure
  rw [hr, bd1_s, show (10 : Int64) = lZ ((10 : Nat) : Int) from rfl, lZ_divN (by omega) (by omega) (by omega), lZ_mul, lZ_sub, lZ_i (by have := hg d (by omega); omega), iZ_nI]
  congr 2
  have := hg d (by omega)
  rw [Nat.add_sub_cancel]
  omega
theorem noTw {M : im_M} {n : Nat} (h : n < 1000000000000) : f_MLineRows_noTwelve (lZ (n : Int)) M = some 0 := by
  unfold f_MLineRows_noTwelve
  simp only [jn0, lc_lt, lc_le]
  rw [show (0 : Int64) = lZ 0 from rfl, show (999999999999 : Int64) = lZ 999999999999 from rfl]
  have a : ¬ lZ (n : Int) < lZ 0 := by rw [lZ_lt (by omega) (by omega)]; omega
  have b : ¬ lZ 999999999999 < lZ (n : Int) := by rw [lZ_lt (by omega) (by omega)]; omega
  rw [if_neg a, if_pos b]
theorem s_checkL {M : im_M} {g : Nat → Nat} (hg : ∀ i, i < 12 → g i < 10) : f_MLineRows_checkFigure (lZ ((nm g 12 : Nat) : Int)) M = some (nI (ckF g), im_setI M 96 3 0) := by
  have sl := sF_le hg 12 (by omega)
  unfold f_MLineRows_checkFigure
  rw [noTw (nm_12 hg 12 (by omega)), bd1_s, if_pos rfl, if_pos (show im_i (im_setI M 96 3 0) 96 3 ≤ 0 by rw [hit]; decide)]
  generalize im_setI M 96 3 0 = N
  have run : ed (lp (uc2 (f_MLineRows_checkFigure_L30 (lZ ((nm g 12 : Nat) : Int)) N)) (0, 1)) (fun r => r = nI (sF g 12)) := by
    refine lp_inv (fun m (s : Int32 × Int32) => ∃ i : Nat, i + m = 12 ∧ s.1 = nI (sF g i) ∧ s.2 = nI (i + 1)) ?_ (k := 12) ⟨0, rfl, rfl, rfl⟩
    rintro m ⟨x5, x6⟩ ⟨i, hi, e1, e2⟩
    replace e1 : x5 = nI (sF g i) := e1
    replace e2 : x6 = nI (i + 1) := e2
    subst e1 e2
    show ed (f_MLineRows_checkFigure_L30 (lZ ((nm g 12 : Nat) : Int)) N (nI (sF g i)) (nI (i + 1))) _
    unfold f_MLineRows_checkFigure_L30
    have k0 : ((12 : Int32) < nI (i + 1)) = (12 < i + 1) := nIlt (x := 12) (by omega) (by omega)
    simp only [k0]
    by_cases c : 12 < i + 1
    · rw [if_pos c]
      obtain rfl : i = 12 := by omega
      exact lpo_r rfl
    · have o0 : (nI ((i + 1) % 2) = 1) = ((i + 1) % 2 = 1) := nIe (c := 1) (by omega) (by omega)
      rw [if_neg c, s_figureL hg (by omega), bd1_s, Nat.add_sub_cancel, nI_odd (by omega)]
      simp only [o0]
      refine lpo_l (m - 1) (by omega) ⟨i + 1, by omega, ?_, nI_add (i + 1) 1⟩
      show nI (sF g i) + (if ¬ (i + 1) % 2 = 1 then (3 : Int32) else 1) * nI (g i) = nI (sF g i + (if i % 2 = 0 then 1 else 3) * g i)
      by_cases d : i % 2 = 0
      · rw [if_neg (by omega), if_pos d, show (1 : Int32) = nI 1 from rfl, nI_mul, nI_add]
      · rw [if_pos (by omega), if_neg d, show (3 : Int32) = nI 3 from rfl, nI_mul, nI_add]
  obtain ⟨r, hr, rfl⟩ := run
  rw [hr, bd1_s]
  have run2 : ed (lp (uc1 (f_MLineRows_checkFigure_L69 (nI (sF g 12)) N)) 0) (fun r => r = nI (ckF g)) := by
    have ck : ckF g = (10 - sF g 12 % 10) % 10 := rfl
    refine lp_inv (fun m (s : Int32) => ∃ x : Nat, x + m = ckF g ∧ s = nI x) ?_ (k := ckF g) ⟨0, by omega, rfl⟩
    rintro m x13 ⟨x, hx, e1⟩
    subst e1
    show ed (f_MLineRows_checkFigure_L69 (nI (sF g 12)) N (nI x)) _
    unfold f_MLineRows_checkFigure_L69
    have rm : nI (sF g 12 + x) - nI (sF g 12 + x) / 10 * 10 = nI ((sF g 12 + x) % 10) := nI_rem (b := 10) (by omega) (by omega) (by omega)
    have z0 : (nI ((sF g 12 + x) % 10) = 0) = ((sF g 12 + x) % 10 = 0) := nIe (c := 0) (by omega) (by omega)
    rw [nI_add, rm]
    simp only [z0]
    by_cases c : (sF g 12 + x) % 10 = 0
    · rw [if_pos c]
      refine lpo_r ?_
      congr 1
      omega
    · rw [if_neg c]
      exact lpo_l (m - 1) (by omega) ⟨x + 1, by omega, nI_add x 1⟩
  obtain ⟨r, hr, rfl⟩ := run2
  rw [hr, bd1_s]
theorem s_thirteen {M : im_M} {g : Nat → Nat} (hg : ∀ i, i < 12 → g i < 10) (t98 : im_i M 98 = im_i mm_341 98) (t99 : im_i M 99 = im_i mm_341 99) : ed (f_MLineRows_thirteen (lZ ((nm g 12 : Nat) : Int)) 1 M) (fun r => LWQ r.2 59 (figV g) ∧ fr (2 ^ 103) [(96, 3), (96, 10)] M r.2) := by
  unfold f_MLineRows_thirteen
  have nmo : f_MLineRows_noModule 1 M = some 0 := by
    unfold f_MLineRows_noModule
    simp only [jn0]
    rw [if_neg (by decide), if_pos (by decide)]
  simp only [jn0]
  rw [noTw (nm_12 hg 12 (by omega)), bd1_s, if_neg (fun z => z rfl), nmo, bd1_s, if_pos rfl, bd1_s, if_pos (show im_i (im_setI M 96 3 0) 96 3 ≤ 0 by rw [hit]; decide), s_checkL hg, bd2_s]
  obtain ⟨N, hN⟩ : ∃ N, N = im_setI (im_setI (im_setI M 96 3 0) 96 3 0) 96 10 0 := ⟨_, rfl⟩
  have fN : fr 0 [(96, 3), (96, 10)] M N := by rw [hN]; exact fr_F (by decide) (fr_F (by decide) (fr_F (by decide) fr_refl))
  have b0 : LWQ N 0 (fun _ => 0) := ⟨by rw [hN]; exact hit, by omega, fun i hi => absurd hi (Nat.not_lt_zero _)⟩
  rw [← hN]
  clear hN
  have e111 : (111 : Int32) = nI 111 := rfl
  have e3 : (3 : Int32) = nI 3 := rfl
  rw [e111, e3]
  apply bd1_mk
  refine ed_mono (s_layL b0 (by omega) (by omega) (by omega)) ?_
  rintro M13 ⟨b13, f13⟩
  apply bd1_mk
  refine ed_mono (lp_inv (fun m (s : Int32 × im_M) => ∃ j : Nat, j + m = 12 ∧ s.1 = nI (j + 2) ∧ LWQ s.2 (nR j) (figR g j) ∧ fr (2 ^ 103) [(96, 10)] N s.2) (Q := fun R => LWQ R 56 (figW g 12) ∧ fr (2 ^ 103) [(96, 10)] N R) ?_ (k := 12) ⟨0, rfl, rfl, b13, f13⟩) ?_
  · rintro m ⟨x18, M19⟩ ⟨j, hj, e1, bj, fj⟩
    replace e1 : x18 = nI (j + 2) := e1
    replace bj : LWQ M19 (nR j) (figR g j) := bj
    replace fj : fr (2 ^ 103) [(96, 10)] N M19 := fj
    subst e1
    show ed (f_MLineRows_thirteen_L55 (lZ ((nm g 12 : Nat) : Int)) 1 (nI (ckF g)) (nI (j + 2)) M19) _
    unfold f_MLineRows_thirteen_L55
    have k0 : ((13 : Int32) < nI (j + 2)) = (13 < j + 2) := nIlt (x := 13) (by omega) (by omega)
    have k13 : (nI (j + 2) = 13) = (j + 2 = 13) := nIe (c := 13) (by omega) (by omega)
    have k7 : (nI (j + 2) = 7) = (j + 2 = 7) := nIe (c := 7) (by omega) (by omega)
    have l8 : ((8 : Int32) ≤ nI (j + 2)) = (8 ≤ j + 2) := nIl (x := 8) (by omega) (by omega)
    simp only [k0, k13, k7, l8, jn0]
    by_cases c : 13 < j + 2
    · rw [if_pos c]
      obtain rfl : j = 12 := by omega
      exact lpo_r ⟨bj, fj⟩
    · have gj := gF_10 hg (j + 1)
      have fg : (if ¬ j + 2 = 13 then bd1 (f_MLineRows_figure (lZ ((nm g 12 : Nat) : Int)) (nI (j + 2)) M19) fun (x21 : Int32) => some x21 else some (nI (ckF g))) = some (nI (gF g (j + 1))) := by
        unfold gF
        by_cases d : j + 2 = 13
        · rw [if_neg (fun z => z d), if_neg (by omega)]
        · rw [if_pos d, if_pos (by omega), s_figureL hg (by omega), bd1_s, show j + 2 - 1 = j + 1 by omega]
      have a98 : im_i M19 98 = im_i mm_341 98 := by rw [fr_c fj 98 (by decide) (by decide), fr_c fN 98 (by decide) (by decide)]; exact t98
      have a99 : im_i M19 99 = im_i mm_341 99 := by rw [fr_c fj 99 (by decide) (by decide), fr_c fN 99 (by decide) (by decide)]; exact t99
      obtain ⟨a1, a2, a3, a4, a5, a6, a7, a8⟩ := tab_f ⟨gF g (j + 1), gj⟩
      replace a1 : im_i mm_341 98 (gF g (j + 1)) = xa_6 (nI (gF g (j + 1))) := a1
      replace a3 : nI (xa_6 (nI (gF g (j + 1)))).toNatClampNeg = xa_6 (nI (gF g (j + 1))) := a3
      replace a4 : okt 4 (xa_6 (nI (gF g (j + 1)))).toNatClampNeg = true := a4
      replace a7 : rv4 (xa_6 (nI (gF g (j + 1)))).toNatClampNeg = (xa_5 (nI (gF g (j + 1)))).toNatClampNeg := a7
      have l6 := okt_lt a4
      have b4 : (10 : Nat) ^ 4 = 10000 := by decide
      have g0 := hg 0 (by omega)
      have t0 : im_i mm_341 99 (g 0) = xa_4 (nI (g 0)) := (tab_f ⟨g 0, g0⟩).2.1
      rw [if_neg c, fg, bd1_s, gd_pos (by rw [inb_nI (by omega)]; omega), nI_clamp (by omega), a98, a1, ← a3, s_rev (by omega), a7]
      have pat : (if 8 ≤ j + 2 then some (nI (xa_6 (nI (gF g (j + 1)))).toNatClampNeg) else bd1 (f_MLineRows_figure (lZ ((nm g 12 : Nat) : Int)) 1 M19) fun (x30 : Int32) => bd1 (f_MLineRows_isTurned x30 (nI (j + 2)) M19) fun (x31 : Int32) => if x31 = 0 then some (nI (xa_6 (nI (gF g (j + 1)))).toNatClampNeg) else bd1 (some (nI (xa_5 (nI (gF g (j + 1)))).toNatClampNeg)) fun (x32 : Int32) => some x32) = some (nI (paF g (j + 1))) := by
        unfold paF tuF
        by_cases d : 8 ≤ j + 2
        · rw [if_pos d, decide_eq_false (by omega), Bool.false_and, if_neg (by decide)]
        · have sft : (7 : Int32) - nI (j + 2) = iZ ((6 - (j + 1) : Nat) : Int) := by
            rw [iZ_nI, show (7 : Int32) = iZ 7 from rfl, iZ_sub]
            congr 1
            omega
          have f1 : f_MLineRows_figure (lZ ((nm g 12 : Nat) : Int)) 1 M19 = some (nI (g 0)) := s_figureL (i := 1) hg (by omega)
          rw [if_neg d, f1, bd1_s]
          unfold f_MLineRows_isTurned
          rw [gd_pos (by rw [inb_nI (by omega)]; omega), nI_clamp (by omega), a99, t0, sft]
          have q := and1_1 (v := xa_4 (nI (g 0))) (s := 6 - (j + 1)) (by omega)
          rw [decide_eq_true (show j + 1 < 7 by omega), Bool.true_and]
          by_cases b : ib (xa_4 (nI (g 0))) (6 - (j + 1)) = true
          · rw [if_neg (fun z => z (q.mpr b)), bd1_s, if_neg (by decide), bd1_s, if_pos b]
          · rw [if_pos (fun z => b (q.mp z)), bd1_s, if_pos rfl, if_neg b]
      rw [pat, bd1_s, show (4 : Int32) = nI 4 from rfl]
      have nr : nR j + 4 ≤ 800 := by unfold nR; split <;> omega
      have hn : nW (j + 1) = nR j + 4 := by unfold nW nR; split <;> split <;> omega
      apply bd1_mk
      refine ed_mono (s_layL bj nr (by have := (paF_ok hg (j + 1)).2; omega) (by omega)) ?_
      rintro M45 ⟨b45, f45⟩
      rw [← hn] at b45
      replace b45 : LWQ M45 (nW (j + 1)) (figW g (j + 1)) := b45
      by_cases d : j + 2 = 7
      · obtain rfl : j = 5 := by omega
        rw [if_neg (fun z => z d)]
        apply bd1_mk
        apply bd1_mk
        refine ed_mono (s_layL (d := 5) (P := 11111) b45 (by decide) (by omega) (by omega)) ?_
        rintro R ⟨bR, fR⟩
        exact ed_mk (lpo_l (m - 1) (by omega) ⟨6, by omega, rfl, bR, fr_tr fR (fr_tr f45 fj)⟩)
      · rw [if_pos d, bd1_s]
        refine lpo_l (m - 1) (by omega) ⟨j + 1, by omega, nI_add (j + 2) 1, ?_, fr_tr f45 fj⟩
        have e1 : nR (j + 1) = nW (j + 1) := by unfold nW nR; split <;> split <;> omega
        unfold figR
        rw [if_neg (by omega), e1]
        exact b45
  · rintro M54 ⟨b54, f54⟩
    apply bd1_mk
    refine ed_mono (s_layL b54 (by omega) (by omega) (by omega)) ?_
    rintro R ⟨bR, fR⟩
    exact ed_mk ⟨bR, fr_tr (fr_mono (by decide) (by decide) (fr_tr fR f54)) (fr_mono (by decide) (by decide) fN)⟩
theorem s_draftThirteen {M : im_M} {k : Nat} {g : Nat → Nat} (q : OM M k 12 (fun i => 48 + g i)) (hg : ∀ i, i < 12 → g i < 10) (h7 : im_i M 89 7 = 0) (t98 : im_i M 98 = im_i mm_341 98) (t99 : im_i M 99 = im_i mm_341 99) : ed (f_M_draftThirteen (nI k) M) (fun R => DFT R 59 (figV g) ∧ fr (2 ^ 92 ||| 2 ^ 103) [(71, 0), (89, 0), (89, 7), (96, 3), (96, 10)] M R) := by
  unfold f_M_draftThirteen
  apply bd2_mk
  refine ed_mono (lp_inv (fun m (s : Int64 × Int32 × im_M) => ∃ i : Nat, i + m = 12 ∧ s.1 = lZ ((nm g i : Nat) : Int) ∧ s.2.1 = nI i ∧ fr 0 [(71, 0)] M s.2.2) (Q := fun r => r.1 = lZ ((nm g 12 : Nat) : Int) ∧ fr 0 [(71, 0)] M r.2) ?_ (k := 12) ⟨0, rfl, rfl, rfl, fr_refl⟩) ?_
  · rintro m ⟨x3, x4, M5⟩ ⟨i, hi, e1, e2, hf⟩
    replace e1 : x3 = lZ ((nm g i : Nat) : Int) := e1
    replace e2 : x4 = nI i := e2
    replace hf : fr 0 [(71, 0)] M M5 := hf
    subst e1 e2
    show ed (f_M_draftThirteen_L5 (nI k) (lZ ((nm g i : Nat) : Int)) (nI i) M5) _
    unfold f_M_draftThirteen_L5
    have k0 : ((12 : Int32) ≤ nI i) = (12 ≤ i) := nIl (x := 12) (by omega) (by omega)
    simp only [k0]
    by_cases c : 12 ≤ i
    · rw [if_pos c]
      obtain rfl : i = 12 := by omega
      exact lpo_r ⟨rfl, hf⟩
    · have gi := hg i (by omega)
      rw [if_neg c, OM_byte (OM_fr hf (by decide +kernel) q) (by omega), bd2_s, lZ_w (by omega), show (10 : Int64) = lZ 10 from rfl, show (48 : Int64) = lZ 48 from rfl, lZ_mul, lZ_add, lZ_sub]
      refine lpo_l (m - 1) (by omega) ⟨i + 1, by omega, ?_, nI_add i 1, fr_F (by decide) hf⟩
      show lZ _ = lZ _
      congr 1
      show (10 : Int) * ((nm g i : Nat) : Int) + ((48 + g i : Nat) : Int) - 48 = ((10 * nm g i + g i : Nat) : Int)
      omega
  · rintro ⟨y7, M8⟩ ⟨e7, f8⟩
    replace e7 : y7 = lZ ((nm g 12 : Nat) : Int) := e7
    subst e7
    apply bd2_mk
    refine ed_mono (s_thirteen hg (by rw [fr_c f8 98 (by decide) (by decide)]; exact t98) (by rw [fr_c f8 99 (by decide) (by decide)]; exact t99)) ?_
    rintro ⟨x9, M9⟩ ⟨b9, f9⟩
    replace f9 : fr (2 ^ 103) [(96, 3), (96, 10)] M8 M9 := f9
    apply bd1_mk
    refine ed_mono (s_draftWidths b9 (figV_p hg) (by rw [f9.1 89 7 (by decide) (by decide), f8.1 89 7 (by decide) (by decide)]; exact h7)) ?_
    rintro R ⟨dR, fR⟩
    exact ed_mk ⟨dR, fr_tr (fr_mono (by decide) (by decide) fR) (fr_tr (fr_mono (by decide) (by decide) f9) (fr_mono (by decide) (by decide) f8))⟩
