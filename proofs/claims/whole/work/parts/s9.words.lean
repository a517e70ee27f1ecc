/-! THE CODEWORDS READ BY BOTH ARE THE SAME -/
def tkL (T : Nat → Bool) (N : Nat) : List Bool := (List.range N).map T
theorem tk_gd {T : Nat → Bool} {N k : Nat} (c : k < N) : (tkL T N).getD k false = T k := by
  unfold tkL
  rw [List.getD_eq_getElem?_getD, List.getElem?_map, List.getElem?_range c]
  rfl
theorem wd_255 {x : Int32} {T : Nat → Bool} {W k : Nat} (hk : k < W) (h : ∀ c, c < 8 * W → c / 8 = k → ib x (7 - c % 8) = T c) : x &&& 255 = nI (byL (tkL T (8 * W)) k) := ib_ext fun j hj => by
  have e255 : ib 255 j = decide (j < 8) := (show ∀ k : Fin 32, ib 255 k.val = decide (k.val < 8) by decide +kernel) ⟨j, hj⟩
  rw [ib_and, e255, ib_nI hj]
  by_cases c : j < 8
  · rw [decide_eq_true c, Bool.and_true, byL_bit c, tk_gd (by omega)]
    have := h (8 * k + (7 - j)) (by omega) (by omega)
    rw [show 7 - (8 * k + (7 - j)) % 8 = j by omega] at this
    exact this
  · rw [decide_eq_false c, Bool.and_false]
    have l := byL_lt (L := tkL T (8 * W)) (i := k)
    exact (Nat.testBit_lt_two_pow (Nat.lt_of_lt_of_le l (Nat.le_trans (show 256 ≤ 2 ^ 8 by decide) (Nat.pow_le_pow_right (by omega) (show 8 ≤ j by omega))))).symm
theorem two_words {Mc Mr : im_M} {v m : Nat} {G : Nat → Nat → Bool} {s0 s1 : GS} (hv : 1 ≤ v ∧ v ≤ 40) (zc : zG (17 + 4 * v) s0) (zr : zG (17 + 4 * v) s1) (c1 : im_i Mc 38 1 = nI (17 + 4 * v)) (c2 : im_i Mc 55 = (frmG (17 + 4 * v) v (fmW 8) s0).2) (c3 : ∀ x y, x < 17 + 4 * v → y < 17 + 4 * v → im_i Mc 54 (177 * y + x) = bI (G x y)) (r1 : im_i Mr 108 8 = nI (17 + 4 * v)) (r2 : im_i Mr 113 = (frmG (17 + 4 * v) v (fmW 0) s1).2) (r3 : ∀ x y, x < 17 + 4 * v → y < 17 + 4 * v → im_i Mr 112 (177 * y + x) = bI (G x y)) (b8 : B8 (im_i Mr 120)) : ∃ (C : Nat → Fin 256) (M2 M3 R : im_M), f_HGrid_turnMask (nI m) Mc = some M2 ∧ f_HGrid_carry 0 M2 = some M3 ∧ f_MSquareRows_goThrough (nI m) 1 (nI (CW v)) Mr = some R ∧ (∀ k, k < CW v → im_i M3 44 k &&& 255 = nI (C k).val) ∧ (∀ k, k < CW v → im_i R 120 k = nI (C k).val) ∧ B8 (im_i R 120) := by
  have room := fun g T => alld_room (w := fmW 8) (g := g) (T := T) hv zc
  have hw : CW v ≤ 3706 := (tb_hold ⟨v, by omega⟩ ⟨0, by omega⟩ hv.1).2.2.2.2.1
  have eqF : ∀ x y, x < 17 + 4 * v → y < 17 + 4 * v → (frmG (17 + 4 * v) v (fmW 8) s0).2 (177 * y + x) = (frmG (17 + 4 * v) v (fmW 0) s1).2 (177 * y + x) := fun x y hx hy => by
    have eq0 : EQg (17 + 4 * v) (fun _ _ => False) s0 s1 := fun x y hx hy => by
      obtain ⟨u1, u2⟩ := zc x y hx hy
      obtain ⟨u3, u4⟩ := zr x y hx hy
      exact ⟨by rw [u2, u4], fun _ => by rw [u1, u3]⟩
    exact (frm_eq (show 17 + 4 * v ≤ 177 by omega) eq0 x y hx hy).1
  obtain ⟨n, en⟩ : ∃ n, n = 17 + 4 * v := ⟨_, rfl⟩
  rw [← en] at c1 c2 c3 r1 r2 r3 eqF room
  have hn : 21 ≤ n ∧ n ≤ 177 ∧ n % 2 = 1 := by omega
  generalize (frmG n v (fmW 8) s0).2 = F at c2 eqF room
  generalize (frmG n v (fmW 0) s1).2 = F1 at r2 eqF
  obtain ⟨g, hg⟩ : ∃ g : Nat → Nat → Bool, g = fun x y => Bool.xor (G x y) (tnB m x y) := ⟨_, rfl⟩
  obtain ⟨M2, e2, t1, t2, t3⟩ := s_turnC (M0 := Mc) (k := m) (g := G) c1 hn.2.1 c2 (fun x y hx hy _ => c3 x y hx hy)
  have cr : CRg M2 M2 n F g (fun _ => false, 0) := by
    refine ⟨?_, ?_, fun x y hx hy hz => ?_, fun c hc => absurd hc (Nat.not_lt_zero _), fr_refl⟩
    · rw [t3.1 38 1 (by decide) (by simp)]; exact c1
    · rw [fr_c t3 55 (by decide) (by simp)]; exact c2
    · rw [hg]; exact t1 x y hx hy hz
  obtain ⟨M3, e3, q1, q2, q3, q4, q5⟩ := s_carryD cr hn
  have rr : RRg Mr Mr n (CW v) F1 G (fun _ => false, 0) := ⟨r1, r2, fun x y hx hy _ => r3 x y hx hy, fun c hc => absurd hc (Nat.not_lt_zero _), b8, fr_refl⟩
  obtain ⟨R, e4, p1, p2, p3, p4, p5, p6⟩ := s_throughD (m := m) rr hn hw
  rw [← hg, ← alld_c (F := F) (g := g) ⟨hn.1, hn.2.2⟩ eqF (fun _ _ _ _ _ => rfl)] at p4
  have rm := room g (fun _ => false)
  generalize allD n F g (fun _ => false, 0) = S at q4 p4 rm
  refine ⟨fun k => ⟨byL (tkL S.1 (8 * CW v)) k, byL_lt⟩, M2, M3, R, e2, e3, e4, fun k hk => ?_, fun k hk => ?_, p5⟩
  · exact wd_255 hk (fun c h1 h2 => by rw [← h2]; exact q4 c (by omega) (by omega))
  · obtain ⟨b, b1, b2⟩ := p5 k
    have := wd_255 (x := im_i R 120 k) (T := S.1) hk (fun c h1 h2 => by rw [← h2]; exact p4 c (by omega) h1)
    show im_i R 120 k = nI (byL (tkL S.1 (8 * CW v)) k)
    rw [← this, b2]
    exact (n255 ⟨b, b1⟩).symm
/-! WHAT BOTH UNDERSTAND -/
theorem lv_c : ∀ k : Fin 32, ((nI k.val >>> (3 &&& 31 : Int32) : Int32) ^^^ 1) = nI (k.val / 8 ^^^ 1) ∧ nI k.val &&& 7 = nI (k.val % 8) ∧ k.val / 8 ^^^ 1 < 4 ∧ ((if ¬ (nI k.val >>> (3 &&& 31 : Int32) : Int32) = 1 then (if ¬ (nI k.val >>> (3 &&& 31 : Int32) : Int32) = 0 then (if ¬ (nI k.val >>> (3 &&& 31 : Int32) : Int32) = 3 then 3 else 2) else 1) else 0) : Int32) = nI (k.val / 8 ^^^ 1) ∧ (0 : Int32) ≤ nI k.val ∧ ¬ nI k.val = -1 := by decide +kernel
theorem s_copyR {M : im_M} {n : Nat} (hn : n ≤ 3000) (h : im_i M 108 4 = nI n) : ed (lp (uc2 (f_MSquareRows_read_L195)) (0, M)) (fun R => (∀ j, j < n → im_i R 111 j = im_i M 128 j) ∧ fr (2 ^ 111) [] M R) := by
  refine lp_inv (fun k (s : Int32 × im_M) => ∃ i : Nat, i + k = n ∧ s.1 = nI i ∧ (∀ j, j < i → im_i s.2 111 j = im_i M 128 j) ∧ fr (2 ^ 111) [] M s.2) ?_ (k := n) ⟨0, by omega, rfl, fun j hj => absurd hj (Nat.not_lt_zero _), fr_refl⟩
  rintro k ⟨x9, M10⟩ ⟨i, hi, e1, g, f⟩
  replace e1 : x9 = nI i := e1
  replace g : ∀ j, j < i → im_i M10 111 j = im_i M 128 j := g
  replace f : fr (2 ^ 111) [] M M10 := f
  subst e1
  show ed (f_MSquareRows_read_L195 (nI i) M10) _
  unfold f_MSquareRows_read_L195
  rw [f.1 108 4 (by decide) (by simp), h, if_nIl (by omega) (by omega)]
  by_cases c : n ≤ i
  · rw [if_pos c]
    exact lpo_r ⟨fun j hj => g j (by omega), f⟩
  · rw [if_neg c, gd_pos (by rw [inb_nI (by omega)]; omega), gd_pos (by rw [inb_nI (by omega)]; omega), nI_clamp (by omega)]
    refine lpo_l (k - 1) (by omega) ⟨i + 1, by omega, nI_add i 1, fun j hj => ?_, fr_I (by decide) f⟩
    show im_i (im_setI M10 111 i _) 111 j = _
    by_cases e : j = i
    · subst e
      rw [hit, f.1 128 j (by decide) (by simp)]
    · rw [sk1 (fun z => e z.2)]
      exact g j (by omega)
theorem two_understand {Mc Mr : im_M} {v : Nat} {G : Nat → Nat → Bool} {s0 s1 : GS} (hv : 1 ≤ v ∧ v ≤ 40) (zc : zG (17 + 4 * v) s0) (zr : zG (17 + 4 * v) s1) (c0 : im_i Mc 38 6 = nI v) (c1 : im_i Mc 38 1 = nI (17 + 4 * v)) (c2 : im_i Mc 55 = (frmG (17 + 4 * v) v (fmW 8) s0).2) (c3 : ∀ x y, x < 17 + 4 * v → y < 17 + 4 * v → im_i Mc 54 (177 * y + x) = bI (G x y)) (qp : PWL Mc) (r0 : im_i Mr 108 7 = nI v) (r1 : im_i Mr 108 8 = nI (17 + 4 * v)) (r2 : im_i Mr 113 = (frmG (17 + 4 * v) v (fmW 0) s1).2) (r3 : ∀ x y, x < 17 + 4 * v → y < 17 + 4 * v → im_i Mr 112 (177 * y + x) = bI (G x y)) (qt : TBR Mr) (b8 : B8 (im_i Mr 120)) : ∃ (f : Nat) (C R : im_M) (z : Int32), f_HGrid_understand Mc = some (nI f, C) ∧ f_MSquareRows_read Mr = some (z, R) ∧ im_i R 108 31 = nI f ∧ B8 (im_i R 120) ∧ f ≤ 6 ∧ ((f = 0 ∧ ∃ n, n ≤ 3000 ∧ im_i C 39 2 = nI n ∧ z = nI n ∧ im_i R 108 4 = nI n ∧ (∀ j, j < n → im_i R 111 j = im_i C 68 j &&& 255) ∧ im_i R 129 0 = im_i C 38 2 ∧ im_i R 129 1 = im_i C 38 3 ∧ im_i R 129 2 = im_i C 38 4 ∧ im_i R 129 3 = im_i C 39 1 ∧ im_i R 108 32 = 1) ∨ (f ≠ 0 ∧ z = -1)) := by
  have hn : 21 ≤ 17 + 4 * v ∧ 17 + 4 * v ≤ 177 := by omega
  obtain ⟨N, hN⟩ : ∃ N, N = im_setI (im_setI (im_setI Mr 108 0 0) 108 31 0) 108 32 0 := ⟨_, rfl⟩
  have fN : fr 0 [(108, 0), (108, 31), (108, 32)] Mr N := by
    rw [hN]
    exact fr_F (by decide) (fr_F (by decide) (fr_F (by decide) fr_refl))
  have n7 : im_i N 108 7 = nI v := (fN.1 108 7 (by decide) (by decide)).trans r0
  have n8 : im_i N 108 8 = nI (17 + 4 * v) := (fN.1 108 8 (by decide) (by decide)).trans r1
  have n31 : im_i N 108 31 = 0 := by rw [hN, sk1 (by omega)]; exact hit
  have n112 : ∀ x y, x < 17 + 4 * v → y < 17 + 4 * v → im_i N 112 (177 * y + x) = bI (G x y) := fun x y hx hy => (fN.1 112 _ (by decide) (by simp)).trans (r3 x y hx hy)
  have nv : ¬ im_i (im_setI (im_setI Mr 108 0 0) 108 31 0) 108 7 = 0 := by
    rw [sk1 (by omega), sk1 (by omega), r0, show (0 : Int32) = nI 0 from rfl, nIe (by omega) (by omega)]
    omega
  have fC : f_HGrid_formNumber Mc = some (oI (fnV G (17 + 4 * v))) := s_formNC ⟨c1, c3⟩ hn
  have fR : f_MSquareRows_formNumberRead N = some (oI (fnV G (17 + 4 * v))) := s_formNR ⟨n8, n112⟩ hn
  cases ev : fnV G (17 + 4 * v) with
  | none =>
    rw [ev] at fC fR
    refine ⟨1, Mc, im_setI N 108 31 1, -1, ?_, ?_, hit, ?_, by omega, Or.inr ⟨by omega, rfl⟩⟩
    · unfold f_HGrid_understand
      rw [fC, bd1_s, if_neg (fun z => z rfl)]
      rfl
    · unfold f_MSquareRows_read
      rw [if_pos nv, ← hN, fR, bd1_s, if_neg (show ¬ (0 : Int32) ≤ oI none by decide)]
    · rw [up_o (by decide), fr_c fN 120 (by decide) (by decide)]
      exact b8
  | some k =>
    rw [ev] at fC fR
    replace fC : f_HGrid_formNumber Mc = some (nI k) := fC
    replace fR : f_MSquareRows_formNumberRead N = some (nI k) := fR
    have k32 := fnV_lt ev
    obtain ⟨l1, l2, l3, l4, l5, l6⟩ := lv_c ⟨k, k32⟩
    replace l1 : ((nI k >>> (3 &&& 31 : Int32) : Int32) ^^^ 1) = nI (k / 8 ^^^ 1) := l1
    replace l2 : nI k &&& 7 = nI (k % 8) := l2
    replace l3 : k / 8 ^^^ 1 < 4 := l3
    replace l4 : ((if ¬ (nI k >>> (3 &&& 31 : Int32) : Int32) = 1 then (if ¬ (nI k >>> (3 &&& 31 : Int32) : Int32) = 0 then (if ¬ (nI k >>> (3 &&& 31 : Int32) : Int32) = 3 then 3 else 2) else 1) else 0) : Int32) = nI (k / 8 ^^^ 1) := l4
    replace l5 : (0 : Int32) ≤ nI k := l5
    replace l6 : ¬ nI k = -1 := l6
    generalize k / 8 ^^^ 1 = l at *
    generalize k % 8 = m at *
    obtain ⟨M1, hM1⟩ : ∃ M1, M1 = im_setI (im_setI Mc 38 2 (nI l)) 38 3 (nI m) := ⟨_, rfl⟩
    have f1 : fr 0 [(38, 2), (38, 3)] Mc M1 := by
      rw [hM1]
      exact fr_F (by decide) (fr_F (by decide) fr_refl)
    have m13 : im_i M1 38 3 = nI m := by rw [hM1]; exact hit
    have m12 : im_i M1 38 2 = nI l := by rw [hM1, sk1 (by omega)]; exact hit
    obtain ⟨Cw, M2, M3, R4, e2, e3, e4, w1, w2, w3⟩ := two_words (m := m) (Mc := M1) (Mr := N) hv zc zr ((f1.1 38 1 (by decide) (by decide)).trans c1) ((fr_c f1 55 (by decide) (by decide)).trans c2) (fun x y hx hy => (f1.1 54 _ (by decide) (by simp)).trans (c3 x y hx hy)) n8 ((fr_c fN 113 (by decide) (by decide)).trans r2) n112 (by rw [fr_c fN 120 (by decide) (by decide)]; exact b8)
    have f2 := f_HGrid_turnMask_fr e2
    have f3 := f_HGrid_carry_fr e3
    have f4 := f_MSquareRows_goThrough_fr e4
    have m36 : im_i M3 38 6 = nI v := by
      rw [f3.1 38 6 (by decide) (by simp), f2.1 38 6 (by decide) (by simp), f1.1 38 6 (by decide) (by decide)]
      exact c0
    have m32 : im_i M3 38 2 = nI l := by
      rw [f3.1 38 2 (by decide) (by simp), f2.1 38 2 (by decide) (by simp)]
      exact m12
    have m33 : im_i M3 38 3 = nI m := by
      rw [f3.1 38 3 (by decide) (by simp), f2.1 38 3 (by decide) (by simp)]
      exact m13
    have p3 : PWL M3 := PWL_fr f3 (by decide +kernel) (PWL_fr f2 (by decide +kernel) (PWL_fr f1 (by decide +kernel) qp))
    have t4 : TBR R4 := TBR_fr f4 (by decide +kernel) (TBR_fr fN (by decide +kernel) qt)
    have r47 : im_i R4 108 7 = nI v := (f4.1 108 7 (by decide) (by simp)).trans n7
    have r431 : im_i R4 108 31 = 0 := (f4.1 108 31 (by decide) (by simp)).trans n31
    obtain ⟨⟨x4, M4⟩, ⟨x5, M5⟩, em, ea, hh⟩ := two_mend p3 t4 hv l3 w1 w2
    have g4 := f_HBlocks_mend_fr em
    have g5 := f_MSquareRows_allBlocks_fr ea
    replace g4 : fr 17734023044399104 [(43, 10), (43, 11), (43, 12), (43, 13)] M3 M4 := g4
    replace g5 : fr 168147341466791857922331593125463588864 [] R4 M5 := g5
    have b5 : B8 (im_i M5 120) := by
      rw [fr_c g5 120 (by decide) (by simp)]
      exact w3
    have cw : f_MSquareRows_allCodewords (nI v) N = some (nI (CW v)) := cw_r ⟨v, by omega⟩ hv.1
    have r57 : im_i M5 108 7 = nI v := (g5.1 108 7 (by decide) (by simp)).trans r47
    have cls : f_HGrid_understand Mc = if ¬ x4 = (-1) then bd2 (f_HSegments_unpack (nI v) (nI l) (im_setI M4 38 4 x4)) fun (x5 : Int32) (M5 : im_M) => some (x5, M5) else some (2, (im_setI M4 38 4 x4)) := by
      have a6 : im_i (im_setI M4 38 4 x4) 38 6 = nI v := by rw [sk1 (by omega), g4.1 38 6 (by decide) (by decide)]; exact m36
      have a2 : im_i (im_setI M4 38 4 x4) 38 2 = nI l := by rw [sk1 (by omega), g4.1 38 2 (by decide) (by decide)]; exact m32
      unfold f_HGrid_understand
      rw [fC, bd1_s, if_pos l6, l1, l2, ← hM1, m13, e2, bd1_s, e3, bd1_s, m36, m32, em, bd2_s, a6, a2, hit]
    have ref : f_MSquareRows_read Mr = if 0 ≤ x5 then bd1 (f_MSquareRows_holds (nI v) (nI l) (im_setI M5 108 29 0)) fun (x6 : Int32) => bd1 (f_MSquareRows_segments (nI v) (im_setI (im_setI (im_setI M5 108 29 0) 108 30 ((8 : Int32) * x6)) 108 28 0)) fun (M7 : im_M) => if (im_i M7 108 31) ≤ 0 then gd (inb 0 4) <| gd (inb 1 4) <| gd (inb 2 4) <| bd1 (lp (uc2 (f_MSquareRows_read_L195)) (0, (im_setI (im_setI (im_setI (im_setI (im_setI M7 129 (Int32.toNatClampNeg 0) (nI l)) 129 (Int32.toNatClampNeg 1) (nI m)) 129 (Int32.toNatClampNeg 2) x5) 108 32 1) 108 4 (im_i (im_setI (im_setI (im_setI (im_setI M7 129 (Int32.toNatClampNeg 0) (nI l)) 129 (Int32.toNatClampNeg 1) (nI m)) 129 (Int32.toNatClampNeg 2) x5) 108 32 1) 108 28)))) fun (M11 : im_M) => some ((im_i M11 108 4), M11) else some ((-1), M7) else some ((-1), (im_setI M5 108 31 2)) := by
      have a7 : im_i (im_setI M5 108 29 0) 108 7 = nI v := by rw [sk1 (by omega)]; exact r57
      have b7 : ∀ x6 : Int32, im_i (im_setI (im_setI (im_setI M5 108 29 0) 108 30 ((8 : Int32) * x6)) 108 28 0) 108 7 = nI v := fun x6 => by rw [sk1 (by omega), sk1 (by omega)]; exact a7
      unfold f_MSquareRows_read
      rw [if_pos nv, ← hN, fR, bd1_s, if_pos l5, n7, cw, bd1_s, l2, l4, e4, bd1_s, r47, ea, bd2_s, a7]
      simp only [b7]
    rcases hh with ⟨h1, h2⟩ | ⟨mm, Dd, hm, h1, h2, h3⟩
    · replace h1 : x4 = -1 := h1
      replace h2 : x5 = -1 := h2
      rw [if_neg (fun z => z h1)] at cls
      rw [if_neg (by rw [h2]; decide)] at ref
      refine ⟨2, im_setI M4 38 4 x4, im_setI M5 108 31 2, -1, cls, ref, hit, ?_, by omega, Or.inr ⟨by omega, rfl⟩⟩
      rw [up_o (by decide)]
      exact b5
    · replace h1 : x4 = nI mm := h1
      replace h2 : x5 = nI mm := h2
      subst h1 h2
      replace h3 : ∀ j, j < HO v l → im_i M4 40 j &&& 255 = nI (Dd j).val ∧ im_i M5 119 j = nI (Dd j).val := h3
      have z0 : (0 : Int32) ≤ nI mm := by rw [show (0 : Int32) = nI 0 from rfl, nIl (by omega) (by omega)]; omega
      have t5 : TBR (im_setI M5 108 29 0) := TBR_fr (show fr 0 [(108, 29)] M5 _ from fr_F (by decide) fr_refl) (by decide +kernel) (TBR_fr g5 (by decide +kernel) t4)
      obtain ⟨f, C, R, u1, u2, u3, u4⟩ := two_unpack (Mc := im_setI M4 38 4 (nI mm)) (Mr := M5) (D := fun j => (Dd j).val) hv l3 (fun i hi => by rw [sk1 (by omega)]; exact (h3 i hi).1) (fun i hi => by rw [(h3 i hi).2]; exact n255 (Dd i)) ((g5.1 108 31 (by decide) (by simp)).trans r431)
      have v1 := f_HSegments_unpack_fr u1
      have v2 := f_MSquareRows_segments_fr u2
      replace v1 : fr 295147905179352825856 [(39, 1), (39, 2), (39, 5), (39, 6)] (im_setI M4 38 4 (nI mm)) C := v1
      have bR : B8 (im_i R 120) := by
        rw [fr_c v2 120 (by decide) (by decide), up_o (by decide), up_o (by decide), up_o (by decide)]
        exact b5
      rw [if_pos (nI_nm1 (by omega)), u1, bd2_s] at cls
      rw [if_pos z0, s_holdsR t5 hv l3, bd1_s, u2, bd1_s] at ref
      rcases u4 with ⟨rfl, n, n1, n2, n3, n4, n5⟩ | hf
      · have zz : im_i R 108 31 ≤ 0 := by rw [u3]; decide
        obtain ⟨N7, hN7⟩ : ∃ N7, N7 = im_setI (im_setI (im_setI (im_setI R 129 (Int32.toNatClampNeg 0) (nI l)) 129 (Int32.toNatClampNeg 1) (nI m)) 129 (Int32.toNatClampNeg 2) (nI mm)) 108 32 1 := ⟨_, rfl⟩
        rw [if_pos zz, gd_pos (by decide), gd_pos (by decide), gd_pos (by decide), ← hN7] at ref
        have f7 : fr (2 ^ 129) [(108, 32)] R N7 := by
          rw [hN7]
          exact fr_F (by decide) (fr_I (by decide) (fr_I (by decide) (fr_I (by decide) fr_refl)))
        have a28 : im_i N7 108 28 = nI n := (f7.1 108 28 (by decide) (by decide)).trans n3
        obtain ⟨R9, e9, k1, k2⟩ := s_copyR (M := im_setI N7 108 4 (im_i N7 108 28)) (n := n) n1 (by rw [hit, a28])
        rw [e9, bd1_s] at ref
        have z4 : im_i R9 108 4 = nI n := by rw [k2.1 108 4 (by decide) (by simp), hit]; exact a28
        have s9 : ∀ j, im_i R9 129 j = im_i N7 129 j := fun j => by rw [k2.1 129 j (by decide) (by simp), sk1 (by omega)]
        have cl : ∀ j, j ≠ 4 → j < 10 → im_i C 38 j = im_i M3 38 j := fun j hj hj2 => by
          rw [v1.1 38 j (by decide) (by simp), sk1 (by omega), g4.1 38 j (by decide) (by simp)]
        have t0 : Int32.toNatClampNeg 0 = 0 := by decide
        have t1 : Int32.toNatClampNeg 1 = 1 := by decide
        have t2 : Int32.toNatClampNeg 2 = 2 := by decide
        rw [t0, t1, t2] at hN7
        refine ⟨0, C, R9, im_i R9 108 4, cls, ref, ?_, ?_, by omega, Or.inl ⟨rfl, n, n1, n2, z4, z4, fun j hj => ?_, ?_, ?_, ?_, ?_, ?_⟩⟩
        · rw [k2.1 108 31 (by decide) (by simp), sk1 (by omega), f7.1 108 31 (by decide) (by decide)]
          exact u3
        · rw [fr_c k2 120 (by decide) (by simp), up_o (by decide), fr_c f7 120 (by decide) (by decide)]
          exact bR
        · rw [k1 j hj, sk1 (by omega), f7.1 128 j (by decide) (by simp)]
          exact n4 j hj
        · rw [s9, hN7, sk1 (by omega), sk1 (by omega), sk1 (by omega), hit, cl 2 (by omega) (by omega), m32]
        · rw [s9, hN7, sk1 (by omega), sk1 (by omega), hit, cl 3 (by omega) (by omega), m33]
        · rw [s9, hN7, sk1 (by omega), hit, v1.1 38 4 (by decide) (by simp), hit]
        · rw [s9, hN7, sk1 (by omega), sk1 (by omega), sk1 (by omega), sk1 (by omega)]
          exact n5
        · rw [k2.1 108 32 (by decide) (by simp), sk1 (by omega), hN7]
          exact hit
      · have zz : ¬ im_i R 108 31 ≤ 0 := by rw [u3]; rcases hf with rfl | rfl | rfl | rfl <;> decide
        rw [if_neg zz] at ref
        exact ⟨f, C, R, -1, cls, ref, u3, bR, by omega, Or.inr ⟨by omega, rfl⟩⟩
