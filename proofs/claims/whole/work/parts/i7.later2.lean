/-! LATER FAULTS OF ; U AND E -/
theorem late_F {Mc Mr : im_M} {d kc : Nat} {T : List Int32} (q : ST Mc Mr true) (hk : ¬ im_i Mc 23 2 = -1) (hc : CS Mc d T) (hm : MS Mr T) (h9 : im_i Mr 71 9 = nI d) (h15 : im_i Mc 15 9 = nI kc) (h11 : im_i Mr 71 11 = nI (kc + 1)) (hkc : kc < 2000) : LTR 22 d kc (f_HSetter_laterFault (nI 22) Mc) (tsT (lc 22) 0 Mr) := by
  obtain ⟨Fs, W, H, C, n, wk, hd, hs_, ht, hf⟩ := q.2.2.2.2.2 rfl
  cases wk with
  | none => exact absurd hf.2.2.1.1 hk
  | some w =>
    obtain ⟨st, es, s1, s2⟩ := hf.2.2.2
    obtain ⟨M7, x8, y, M12, e7, e8, e12, r2, er, fc, fm, hT⟩ := two_try (g := (drL 0 Fs).length) (f := Fs.length) hf.1 hf.2.1 hf.2.2.1 ht.1 ht.2.1 ht.2.2.1 ht.2.2.2 es ⟨s1, s2⟩ hd.1.1 hd.2.2.2.1 hd.2.2.1 hd.2.1.1 (by have := hd.2.2.2; omega)
    obtain ⟨x30, M30⟩ := r2
    replace fm : fr (2 ^ 81 ||| 2 ^ 82 ||| 2 ^ 84 ||| 2 ^ 85) [(71, 26), (71, 32), (71, 33), (71, 34)] Mr M30 := fm
    have vv : ∀ (v v2 : Int32), VV (im_setI (im_setI M12 15 16 v) 15 9 v2) M30 ∧ VV (im_setI M12 15 16 v) M30 := fun v v2 => ⟨VV_fr (A1 := 2 ^ 21 ||| 2 ^ 22 ||| 2 ^ 26 ||| 2 ^ 27) (F1 := [(23, 9), (15, 16), (15, 9)]) (fr_F (by decide) (fr_F (by decide) (fr_mono (by decide) (by decide) fc))) fm (by decide +kernel) (by decide +kernel) q.2.2.1, VV_fr (A1 := 2 ^ 21 ||| 2 ^ 22 ||| 2 ^ 26 ||| 2 ^ 27) (F1 := [(23, 9), (15, 16), (15, 9)]) (fr_F (by decide) (fr_mono (by decide) (by decide) fc)) fm (by decide +kernel) (by decide +kernel) q.2.2.1⟩
    have m11 : im_i M30 71 11 = nI (kc + 1) := (fm.1 71 11 (by decide) (by decide)).trans h11
    have e11 : (nI (kc + 1) = 2000) = (kc + 1 = 2000) := nIe (c := 2000) (by omega) (by omega)
    -- the reference
    have eT : tsT (lc 22) 0 Mr = if ¬ x30 = 0 then some (x30, M30) else some ((if 2000 ≤ kc + 1 then 10 else 0), M30) := by
      unfold tsT
      rw [lc_t.2.2.2.2.2.2.2.2.2.2.2.2.2, if_neg (fun z => z rfl), if_pos (by decide), bd1_s, if_neg (fun z => z rfl), if_neg (fun z => z rfl), er, bd2_s, bd2_s]
      by_cases c : x30 = 0
      · subst c
        rw [if_neg (fun z => z rfl), if_pos (by decide), bd1_s, if_neg (fun z => z rfl)]
        exact tsZ_0 (by decide) m11 (by omega)
      · rw [if_pos c, bd1_s, if_pos c]
        exact tsZ_f c
    -- the class
    have eC : f_HSetter_laterFault (nI 22) Mc = (if ¬ (im_i (im_setI M12 15 16 y) 15 16) = (-1) then (if 2000 ≤ (im_i (im_setI (im_setI M12 15 16 y) 15 9 ((im_i (im_setI M12 15 16 y) 15 9) + 1)) 15 9) then some ((10 : Int32), (im_setI (im_setI M12 15 16 y) 15 9 ((im_i (im_setI M12 15 16 y) 15 9) + 1))) else bd1 (f_HSetter_isTooMuch (nI 22) (im_setI (im_setI M12 15 16 y) 15 9 ((im_i (im_setI M12 15 16 y) 15 9) + 1))) fun (x22 : Int32) => if x22 = 0 then some (0, (im_setI (im_setI M12 15 16 y) 15 9 ((im_i (im_setI M12 15 16 y) 15 9) + 1))) else some (10, (im_setI (im_setI M12 15 16 y) 15 9 ((im_i (im_setI M12 15 16 y) 15 9) + 1)))) else some (8, (im_setI M12 15 16 y))) := by
      unfold f_HSetter_laterFault
      simp only [jn0, jn1]
      rw [if_pos (by decide), if_neg (fun z => z rfl), e7, bd1_s, e8, bd1_s, e12, bd2_s, if_pos (show ¬ nI 22 = 7 by decide)]
    have v16 : im_i (im_setI M12 15 16 y) 15 16 = y := rfl
    rcases hT with ⟨y1, z1⟩ | ⟨F, hF, hy, hm1, h34, h26, hx, hD, hB, h82, h84, h84b⟩
    · replace z1 : x30 = 8 := z1
      rw [eC, eT, v16, y1, z1, if_neg (fun z => z rfl), if_pos (by decide)]
      exact ⟨_, rfl, _, rfl, rfl, (show FL 8 from Or.inr (by decide)), (vv (-1) 0).2, fun z => absurd (show (8 : Int32) = 0 from z) (by decide)⟩
    · replace hx : x30 = if (drL 0 Fs).length + (fO F).length ≤ 120 then 0 else 10 := hx
      replace h34 : im_i M30 71 34 = nI (fO F).length := h34
      replace h26 : im_i M30 71 26 = nI (drL 0 Fs).length := h26
      have l20 := hF.2.2.2.2.1.1
      have hcn : im_i (im_setI M12 15 16 y) 15 9 = nI kc := (fc.1 15 9 (by decide) (by decide)).trans h15
      have a19 : im_i M12 19 3 = nI (drL 0 Fs).length := (fc.1 19 3 (by decide) (by decide)).trans hd.1.1
      have g120 := hd.2.2.2.1
      have hxm : f_HSetter_isTooMuch (nI 22) (im_setI (im_setI M12 15 16 y) 15 9 (nI (kc + 1))) = some (if (drL 0 Fs).length + (fO F).length ≤ 120 then 0 else 1) := by
        unfold f_HSetter_isTooMuch
        rw [if_neg (fun z => z rfl)]
        show (if im_i M12 19 3 + y ≤ 120 then some 0 else some 1) = _
        have le : (nI ((drL 0 Fs).length + (fO F).length) ≤ 120) = ((drL 0 Fs).length + (fO F).length ≤ 120) := nIl (c := 120) (by omega) (by omega)
        rw [a19, hy, nI_add]
        simp only [le]
        by_cases c : (drL 0 Fs).length + (fO F).length ≤ 120
        · rw [if_pos c, if_pos c]
        · rw [if_neg c, if_neg c]
      rw [eC, eT, v16, if_pos (show ¬ y = -1 by rw [hy]; exact nI_nm1 (by omega)), later_end hcn hkc hxm]
      by_cases c : (drL 0 Fs).length + (fO F).length ≤ 120
      · rw [if_pos c] at hx
        rw [hx, if_neg (show ¬ ¬ (0 : Int32) = 0 from fun z => z rfl), if_pos c, if_pos (show (0 : Int32) = 0 from rfl)]
        refine ⟨_, rfl, _, rfl, rfl, fl_if, (vv y _).1, fun z => ⟨rfl, m11, ?_, true, fun v => ?_⟩⟩
        · replace z : (if 2000 ≤ kc + 1 then (10 : Int32) else 0) = 0 := z
          by_cases g : 2000 ≤ kc + 1
          · rw [if_pos g] at z
            exact absurd z (by decide)
          · omega
        · refine po_F (Mc0 := Mc) (Mr0 := Mr) (M12 := M12) (F := F) (y := y) (v9 := nI (kc + 1)) (T := T) q hd rfl fc (fr_F (by decide) (fr_mono (by decide) (by decide) fm)) hF hy hm1 h34 h26 c hD hB h82 h84 h84b ?_ ?_ ?_
          · exact CS_fr (A := 2 ^ 21 ||| 2 ^ 22 ||| 2 ^ 26 ||| 2 ^ 27) (F := [(23, 9), (15, 16), (15, 9)]) (fr_F (by decide) (fr_F (by decide) (fr_mono (by decide) (by decide) fc))) (by decide +kernel) hc
          · exact MS_fr (A := 2 ^ 81 ||| 2 ^ 82 ||| 2 ^ 84 ||| 2 ^ 85) (F := [(71, 13), (71, 26), (71, 32), (71, 33), (71, 34)]) (fr_F (by decide) (fr_mono (by decide) (by decide) fm)) (by decide +kernel) hm
          · exact (fm.1 71 9 (by decide) (by decide)).trans h9
      · rw [if_neg c] at hx
        have t10 : (if 2000 ≤ kc + 1 then (10 : Int32) else if (1 : Int32) = 0 then 0 else 10) = 10 := by
          split
          · rfl
          · rfl
        rw [hx, if_pos (show ¬ (10 : Int32) = 0 by decide), if_neg c, t10]
        exact ⟨_, rfl, _, rfl, rfl, (show FL 10 from Or.inr (by decide)), (vv y _).1, fun z => absurd (show (10 : Int32) = 0 from z) (by decide)⟩
theorem late_U {Mc Mr : im_M} {d kc : Nat} {T : List Int32} (q : ST Mc Mr true) (hc : CS Mc d T) (hm : MS Mr T) (h9 : im_i Mr 71 9 = nI d) (hN : im_i Mr 78 0 = im_i Mc 9 0) (hR : RG3 Mc 7 0) (h15 : im_i Mc 15 9 = nI kc) (h11 : im_i Mr 71 11 = nI (kc + 1)) (hkc : kc < 2000) : LTR 7 d kc (f_HSetter_laterFault (nI 7) Mc) (tsT (lc 7) 0 Mr) := by
  obtain ⟨k, ek, _, k7⟩ := RG_n hR V_t.2.2.2.1.1 V_t.2.2.2.1.2 (by omega) (by omega)
  have er : im_i Mr 78 0 = nI k := by rw [hN, ek]
  obtain ⟨n, hn, s1, s2, s3⟩ := q.2.2.1.1 k (by omega)
  have d4 := hc.1
  have e6 := hc.2.1
  have c0 : Int32.toNatClampNeg 0 = 0 := rfl
  have n0 : (nI n = 0) = (n = 0) := nIe (c := 0) (by omega) (by omega)
  have dd : (nI d = 4) = (d = 4) := nIe (c := 4) (by omega) (by omega)
  have e11 : (nI (kc + 1) = 2000) = (kc + 1 = 2000) := nIe (c := 2000) (by omega) (by omega)
  have hx : f_HSetter_isTooMuch (nI 7) (im_setI Mc 15 9 (nI (kc + 1))) = some 0 := rfl
  have eC : f_HSetter_laterFault (nI 7) Mc = if n = 0 then some (9, Mc) else if ¬ d = 4 then some ((if 2000 ≤ kc + 1 then 10 else 0), im_setI Mc 15 9 (nI (kc + 1))) else some (9, Mc) := by
    unfold f_HSetter_laterFault
    simp only [jn0, jn1]
    rw [if_pos (by decide), if_pos (by decide), if_neg (fun z => z rfl), gd_pos (by decide), c0, ek, gd_pos (by rw [inb_nI (by omega)]; omega), nI_clamp (by omega), s1, e6, later_end h15 hkc hx]
    simp only [n0, dd]
    rfl
  have eT : tsT (lc 7) 0 Mr = if n = 0 then some (9, Mr) else if ¬ d = 4 then some ((if 2000 ≤ kc + 1 then 10 else 0), Mr) else some (9, Mr) := by
    unfold tsT
    rw [lc_t.2.2.2.2.2.2.2.1, if_neg (fun z => z rfl), if_pos (by decide), bd1_s, if_neg (fun z => z rfl), if_pos (by decide), bd2_s, if_neg (fun z => z rfl), if_neg (fun z => z rfl), gd_pos (by decide), c0, er, gd_pos (by rw [inb_nI (by omega)]; omega), nI_clamp (by omega), s2, h9]
    simp only [jn0, n0, dd]
    by_cases a : n = 0
    · rw [if_pos a, bd1_s, if_pos a]
      exact tsZ_f (by decide)
    · rw [if_neg a, if_neg a]
      by_cases b : d = 4
      · rw [if_neg (fun z => z b), bd1_s, if_neg (fun z => z b)]
        exact tsZ_f (by decide)
      · rw [if_pos b, bd1_s, if_pos b]
        exact tsZ_0 (by decide) h11 (by omega)
  rw [eC, eT]
  by_cases a : n = 0
  · rw [if_pos a, if_pos a]
    exact ⟨_, rfl, _, rfl, rfl, (show FL 9 from Or.inr (by decide)), q.2.2.1, fun z => absurd (show (9 : Int32) = 0 from z) (by decide)⟩
  · rw [if_neg a, if_neg a]
    by_cases b : d = 4
    · rw [if_neg (fun z => z b), if_neg (fun z => z b)]
      exact ⟨_, rfl, _, rfl, rfl, (show FL 9 from Or.inr (by decide)), q.2.2.1, fun z => absurd (show (9 : Int32) = 0 from z) (by decide)⟩
    · rw [if_pos b, if_pos b]
      have f1 : fr 0 [(15, 9)] Mc (im_setI Mc 15 9 (nI (kc + 1))) := fr_F (by decide) fr_refl
      have f3 : ∀ v, fr 0 [(71, 13)] Mr (im_setI Mr 71 13 v) := fun v => fr_F (by decide) fr_refl
      have q1 : ST (im_setI Mc 15 9 (nI (kc + 1))) Mr true := ST_fr (fr_mono (by decide) (by decide) f1) fr_refl q
      have hc1 : CS (im_setI Mc 15 9 (nI (kc + 1))) d T := CS_fr f1 (by decide +kernel) hc
      refine ⟨_, rfl, _, rfl, rfl, fl_if, q1.2.2.1, fun z => ⟨rfl, h11, ?_, true, fun v => po_U (k := k) (ST_fr fr_refl (fr_mono (by decide) (by decide) (f3 v)) q1) hc1 (MS_fr (f3 v) (by decide +kernel) hm) h9 hN ek (by omega) (by omega)⟩⟩
      replace z : (if 2000 ≤ kc + 1 then (10 : Int32) else 0) = 0 := z
      by_cases g : 2000 ≤ kc + 1
      · rw [if_pos g] at z
        exact absurd z (by decide)
      · omega
theorem late_E {Mc Mr : im_M} {kc : Nat} {T : List Int32} (q : ST Mc Mr true) (hc : CS Mc 0 T) (hm : MS Mr T) (h9 : im_i Mr 71 9 = nI 0) (h15 : im_i Mc 15 9 = nI kc) (h11 : im_i Mr 71 11 = nI (kc + 1)) (hkc : kc < 2000) : LTR 3 0 kc (f_HSetter_laterFault (nI 3) Mc) (tsT (lc 3) 0 Mr) := by
  obtain ⟨LL, A, hg⟩ := q.2.2.2.2.1
  obtain ⟨Fs, W, H, C, n, wk, hd, hs_, ht, hf⟩ := q.2.2.2.2.2 rfl
  have lL := hg.2.2.2.2.1
  have lA := hg.2.2.2.2.2.1
  have lF := hd.2.2.2.1
  have lC := hs_.2.2.2.2.2
  have mC : C * (drL 0 Fs).length ≤ 1440 := by
    have h1 : C * (drL 0 Fs).length ≤ 12 * (drL 0 Fs).length := Nat.mul_le_mul_right _ lC
    omega
  have e11 : (nI (kc + 1) = 2000) = (kc + 1 = 2000) := nIe (c := 2000) (by omega) (by omega)
  have b12 : ((12 : Int32) < nI (LL.length + C)) = (12 < LL.length + C) := nIlt (x := 12) (by omega) (by omega)
  have b120 : (nI (A.length + C * (drL 0 Fs).length) ≤ 120) = (A.length + C * (drL 0 Fs).length ≤ 120) := nIl (c := 120) (by omega) (by omega)
  have hx : f_HSetter_isTooMuch (nI 3) (im_setI Mc 15 9 (nI (kc + 1))) = some (if 12 < LL.length + C then 1 else if A.length + C * (drL 0 Fs).length ≤ 120 then 0 else 1) := by
    unfold f_HSetter_isTooMuch
    simp only [jn0]
    rw [if_pos (by decide), if_neg (fun z => z rfl)]
    show (if 12 < im_i Mc 15 4 + im_i Mc 15 12 then some 1 else if im_i Mc 11 3 + im_i Mc 15 12 * im_i Mc 19 3 ≤ 120 then some 0 else some 1) = _
    rw [hg.1.1, hs_.2.2.1, hg.2.2.1.1, hd.1.1, nI_mul, nI_add, nI_add]
    simp only [b12, b120]
    repeat' split
    all_goals rfl
  have eC : f_HSetter_laterFault (nI 3) Mc = some ((if 2000 ≤ kc + 1 then 10 else if (if 12 < LL.length + C then (1 : Int32) else if A.length + C * (drL 0 Fs).length ≤ 120 then 0 else 1) = 0 then 0 else 10), im_setI Mc 15 9 (nI (kc + 1))) := by
    unfold f_HSetter_laterFault
    simp only [jn0, jn1]
    rw [if_pos (by decide), if_pos (by decide), if_pos (by decide), later_end h15 hkc hx]
  have eT : tsT (lc 3) 0 Mr = some ((if 12 < LL.length + C then 10 else if A.length + C * (drL 0 Fs).length ≤ 120 then (if 2000 ≤ kc + 1 then 10 else 0) else 10), Mr) := by
    unfold tsT
    rw [lc_t.2.2.2.1, if_neg (fun z => z rfl), if_pos (by decide), bd1_s, if_neg (fun z => z rfl), if_pos (by decide), bd2_s, if_neg (fun z => z rfl), if_pos (by decide), bd1_s]
    have eE : tsE 69 0 Mr = if 12 < LL.length + C then 10 else if A.length + C * (drL 0 Fs).length ≤ 120 then 0 else 10 := by
      unfold tsE
      rw [if_neg (fun z => z rfl), if_neg (fun z => z rfl), hg.2.1.1, hs_.2.2.2.1, hg.2.2.2.1.1, hd.2.2.1, nI_mul, nI_add, nI_add]
      simp only [b12, b120]
    rw [tsZ_E eE h11 (by omega)]
    by_cases a : 12 < LL.length + C
    · rw [if_pos a, if_pos (by decide), if_pos a]
    · rw [if_neg a, if_neg a]
      by_cases b : A.length + C * (drL 0 Fs).length ≤ 120
      · rw [if_pos b, if_neg (fun z => z rfl), if_pos b]
      · rw [if_neg b, if_pos (by decide), if_neg b]
  rw [eC, eT]
  have f1 : fr 0 [(15, 9)] Mc (im_setI Mc 15 9 (nI (kc + 1))) := fr_F (by decide) fr_refl
  have q1 : ST (im_setI Mc 15 9 (nI (kc + 1))) Mr true := ST_fr (fr_mono (by decide) (by decide) f1) fr_refl q
  have hc1 : CS (im_setI Mc 15 9 (nI (kc + 1))) 0 T := CS_fr f1 (by decide +kernel) hc
  by_cases a : 12 < LL.length + C
  · rw [if_pos a, if_pos a]
    have t10 : (if 2000 ≤ kc + 1 then (10 : Int32) else if (1 : Int32) = 0 then 0 else 10) = 10 := by
      split
      · rfl
      · rfl
    rw [t10]
    exact ⟨_, rfl, _, rfl, rfl, (show FL 10 from Or.inr (by decide)), q1.2.2.1, fun z => absurd (show (10 : Int32) = 0 from z) (by decide)⟩
  · rw [if_neg a, if_neg a]
    by_cases b : A.length + C * (drL 0 Fs).length ≤ 120
    · rw [if_pos b, if_pos b, if_pos rfl]
      refine ⟨_, rfl, _, rfl, rfl, fl_if, q1.2.2.1, fun z => ⟨rfl, h11, ?_, false, fun v => ?_⟩⟩
      · replace z : (if 2000 ≤ kc + 1 then (10 : Int32) else 0) = 0 := z
        by_cases g : 2000 ≤ kc + 1
        · rw [if_pos g] at z
          exact absurd z (by decide)
        · omega
      · have f3 : fr 0 [(71, 13)] Mr (im_setI Mr 71 13 v) := fr_F (by decide) fr_refl
        exact po_E (LL := LL) (A := A) (Fs := Fs) (W := W) (H := H) (C := C) (ST_fr fr_refl (fr_mono (by decide) (by decide) f3) q1) (STg_fr f1 f3 (by decide +kernel) (by decide +kernel) hg) (STd_fr f1 f3 (by decide +kernel) (by decide +kernel) hd) (STs_fr f1 f3 (by decide +kernel) (by decide +kernel) hs_) hc1 (MS_fr f3 (by decide +kernel) hm) h9 (by omega) b
    · rw [if_neg b, if_neg b]
      have t10 : (if 2000 ≤ kc + 1 then (10 : Int32) else if (1 : Int32) = 0 then 0 else 10) = 10 := by
        split
        · rfl
        · rfl
      rw [t10]
      exact ⟨_, rfl, _, rfl, rfl, (show FL 10 from Or.inr (by decide)), q1.2.2.1, fun z => absurd (show (10 : Int32) = 0 from z) (by decide)⟩
theorem two_late {Mc Mr : im_M} {b : Bool} {d w kc : Nat} {T : List Int32} (hw : w < 23) (q : ST Mc Mr b) (hb1 : b = false → w = 0 ∨ w = 1 ∨ w = 2) (hb2 : b = true → ¬ w = 0 ∧ ¬ w = 1) (hd3 : w = 3 → d = 0) (hk22 : w = 22 → ¬ im_i Mc 23 2 = -1) (hbd : b = false → d = 0) (hc : CS Mc d T) (hm : MS Mr T) (h9 : im_i Mr 71 9 = nI d) (hN : ∀ j, j < hs w → im_i Mr 78 j = im_i Mc 9 j) (hR : ∀ k, k < hs w → RG3 Mc w k) (hD : w = 2 ∨ w = 10 → ∃ n, DTA Mc Mr n) (h15 : im_i Mc 15 9 = nI kc) (h11 : im_i Mr 71 11 = nI (kc + 1)) (hkc : kc < 2000) : LTR w d kc (f_HSetter_laterFault (nI w) Mc) (tsT (lc w) 0 Mr) := by
  have bt : ∀ v, w = v → 3 ≤ v → b = true := fun v e h => by
    cases b with
    | true => rfl
    | false => have := hb1 rfl; omega
  by_cases n0 : w = 0
  · subst n0
    cases b with
    | true => exact absurd rfl (hb2 rfl).1
    | false =>
      obtain rfl : d = 0 := hbd rfl
      exact late_S q hc hm h9 (hN 0 (by decide)) (hR 0 (by decide)) h15 h11 hkc
  · by_cases n3 : w = 3
    · obtain rfl := bt 3 n3 (by omega)
      subst n3
      obtain rfl := hd3 rfl
      exact late_E q hc hm h9 h15 h11 hkc
    · by_cases n7 : w = 7
      · obtain rfl := bt 7 n7 (by omega)
        subst n7
        exact late_U q hc hm h9 (hN 0 (by decide)) (hR 0 (by decide)) h15 h11 hkc
      · by_cases n22 : w = 22
        · obtain rfl := bt 22 n22 (by omega)
          subst n22
          exact late_F q (hk22 rfl) hc hm h9 h15 h11 hkc
        · exact late_plain hw n0 n3 n7 n22 q hb1 hb2 hbd hc hm h9 hN hR hD h15 h11 hkc
