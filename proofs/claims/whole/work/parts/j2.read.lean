/-! READ -/
theorem stg_done {Mc Mr : im_M} {LL : List (Nat × Nat × Nat × Nat)} {A : List (FDt × OD × Nat)} (h : STg Mc Mr LL A) : RB (im_i Mc 15 4) (im_i Mr 71 35) (im_i Mc 16) (im_i Mr 86) ∧ RO (im_i Mc 11 3) (im_i Mr 71 37) (im_i Mc 13) (im_i Mr 87) (im_i Mc 14) (im_i Mr 88) ∧ OR (im_i Mc 15 4) (im_i Mc 16) (im_i Mc 11 3) (im_i Mc 13) (im_i Mc 14) := by
  obtain ⟨hc, hr, cA, rA, l12, l120, hx⟩ := h
  refine ⟨⟨LL.length, l12, hc.1, hr.1, fun k hk => ?_⟩, ⟨A.length, l120, cA.1, rA.1, fun k hk => ?_⟩, ⟨A.length, LL.length, cA.1, l120, hc.1, l12, fun k hk => ?_, fun k hk => ?_⟩⟩
  · have hk4 : k / 4 < LL.length := by omega
    obtain ⟨x, ex⟩ : ∃ x, LL[k / 4]? = some x := ⟨LL[k / 4]'hk4, List.getElem?_eq_getElem hk4⟩
    have a := hc.2 _ _ ex
    have b := hr.2 _ _ ex
    have : k = 4 * (k / 4) ∨ k = 4 * (k / 4) + 1 ∨ k = 4 * (k / 4) + 2 ∨ k = 4 * (k / 4) + 3 := by omega
    rcases this with e | e | e | e
    · rw [e, a.1, b.1]
    · rw [e, a.2.1, b.2.1]
    · rw [e, a.2.2.1, b.2.2.1]
    · rw [e, a.2.2.2, b.2.2.2]
  · obtain ⟨z, ez⟩ : ∃ z, A[k]? = some z := ⟨A[k]'hk, List.getElem?_eq_getElem hk⟩
    obtain ⟨v, a, b⟩ := cA.2 k z ez
    obtain ⟨_, a', b'⟩ := rA.2 k z ez
    refine ⟨fun j hj => by rw [a j hj, a' j hj], z.2.1.2.1.2, (od_in v.1 v.2.1).1, by rw [a 8 (by omega)]; rfl, fun i hi => ?_⟩
    rw [b' i hi]
    exact (b i hi).2.1.symm
  · obtain ⟨z, ez⟩ : ∃ z, A[k]? = some z := ⟨A[k]'hk, List.getElem?_eq_getElem hk⟩
    obtain ⟨v, a, b⟩ := cA.2 k z ez
    exact og_of v a b
  · obtain ⟨x, ex⟩ : ∃ x, LL[k]? = some x := ⟨LL[k]'hk, List.getElem?_eq_getElem hk⟩
    have a := hc.2 _ _ ex
    have g := hx x (List.mem_of_getElem? ex)
    exact ⟨x.1, x.2.1, x.2.2.1, x.2.2.2, a.1, a.2.1, a.2.2.1, a.2.2.2, g.1, g.2.1, g.2.2.1, g.2.2.2.1, g.2.2.2.2⟩
/-- once a reading is through -/
def RDN (Mc Mr : im_M) : Prop := RT (im_i Mc 1 1) (im_i Mr 69 2) (im_i Mc 2) (im_i Mr 70) ∧ (im_i Mr 71 13 = im_i Mc 15 6 ∧ im_i Mr 71 14 = im_i Mc 15 7) ∧ RB (im_i Mc 15 4) (im_i Mr 71 35) (im_i Mc 16) (im_i Mr 86) ∧ (RO (im_i Mc 11 3) (im_i Mr 71 37) (im_i Mc 13) (im_i Mr 87) (im_i Mc 14) (im_i Mr 88) ∧ OR (im_i Mc 15 4) (im_i Mc 16) (im_i Mc 11 3) (im_i Mc 13) (im_i Mc 14)) ∧ VV Mc Mr
theorem two_read {Mc Mr : im_M} (hT : RT (im_i Mc 1 1) (im_i Mr 69 2) (im_i Mc 2) (im_i Mr 70)) (hV : VV Mc Mr) : ed (f_H_read Mc) (fun r1 => ed (f_M_read Mr) (fun r2 => r1.1 = r2.1 ∧ RDN r1.2 r2.2)) := by
  obtain ⟨n, hn, t1, t2, tB⟩ := hT
  have hB : ∀ k, k < n → (im_i Mr 70 k).toNatClampNeg < 256 ∧ im_i Mr 70 k = nI (im_i Mr 70 k).toNatClampNeg := fun k hk => by
    obtain ⟨u, hu, eu⟩ := by255 (x := im_i Mc 2 k)
    rw [(tB k hk).1, eu, nI_clamp (by omega)]
    exact ⟨hu, rfl⟩
  -- the reference up to its loop
  obtain ⟨N1, h1⟩ : ∃ N, N = im_setI (im_setI Mr 71 0 0) 71 2 0 := ⟨_, rfl⟩
  have f1 : fr 0 [(71, 0), (71, 2)] Mr N1 := by rw [h1]; exact fr_F (by decide) (fr_F (by decide) fr_refl)
  have z1 : im_i N1 71 2 = 0 := by rw [h1]; rfl
  have eW : f_MScriptRows_wipe Mr = some (im_i (im_setI Mr 71 0 0) 71 2, N1) := by rw [h1]; rfl
  clear h1
  obtain ⟨N2, e2, f2, k2, k72⟩ := s_rewrite (M := N1) (n := n) (B := fun k => (im_i Mr 70 k).toNatClampNeg) hn ((f1.1 69 2 (by decide) (by decide)).trans t2) z1 (fun k hk => by rw [f1.1 70 k (by decide) (by simp)]; exact hB k hk)
  obtain ⟨N3, h3⟩ : ∃ N, N = im_setI (im_setI N2 71 0 0) 71 8 0 := ⟨_, rfl⟩
  have f3 : fr 0 [(71, 0), (71, 8)] N2 N3 := by rw [h3]; exact fr_F (by decide) (fr_F (by decide) fr_refl)
  have z3 : im_i N3 71 8 = 0 := by rw [h3]; rfl
  have z32 : im_i N3 71 2 = nI n := (f3.1 71 2 (by decide) (by decide)).trans k2
  obtain ⟨N4, e4, f4, m4⟩ := s_pile (M := N3) hn z3
  obtain ⟨N5, h5⟩ : ∃ N, N = im_setI (im_setI (im_setI (im_setI (im_setI N4 71 9 0) 71 11 0) 71 18 0) 71 35 0) 71 37 0 := ⟨_, rfl⟩
  have f5 : fr 0 [(71, 9), (71, 11), (71, 18), (71, 35), (71, 37)] N4 N5 := by rw [h5]; exact fr_F (by decide) (fr_F (by decide) (fr_F (by decide) (fr_F (by decide) (fr_F (by decide) fr_refl))))
  have y9 : im_i N5 71 9 = 0 := by rw [h5]; rfl
  have y11 : im_i N5 71 11 = 0 := by rw [h5]; rfl
  have y18 : im_i N5 71 18 = 0 := by rw [h5]; rfl
  have y35 : im_i N5 71 35 = 0 := by rw [h5]; rfl
  have y37 : im_i N5 71 37 = 0 := by rw [h5]; rfl
  have g5 : fr (2 ^ 72 ||| 2 ^ 77) [(71, 0), (71, 2), (71, 8), (71, 9), (71, 11), (71, 18), (71, 35), (71, 37)] Mr N5 := fr_tr (fr_mono (by decide) (by decide) f5) (fr_tr (fr_mono (by decide) (by decide) f4) (fr_tr (fr_mono (by decide) (by decide) f3) (fr_tr (fr_mono (by decide) (by decide) f2) (fr_mono (by decide) (by decide) f1))))
  -- the class up to its loop
  obtain ⟨M1, g1⟩ : ∃ N, N = im_setI (im_setI (im_setI (im_setI (im_setI (im_setI Mc 15 4 0) 11 3 0) 15 8 0) 15 9 0) 1 6 0) 8 0 0 := ⟨_, rfl⟩
  have c1 : fr (2 ^ 8) [(1, 6), (11, 3), (15, 4), (15, 8), (15, 9)] Mc M1 := by rw [g1]; exact fr_I (by decide) (fr_F (by decide) (fr_F (by decide) (fr_F (by decide) (fr_F (by decide) (fr_F (by decide) fr_refl)))))
  have w8 : im_i M1 15 8 = 0 := by rw [g1]; rfl
  have w9 : im_i M1 15 9 = 0 := by rw [g1]; rfl
  have w4 : im_i M1 15 4 = 0 := by rw [g1]; rfl
  have w3 : im_i M1 11 3 = 0 := by rw [g1]; rfl
  have w6 : im_i M1 1 6 = 0 := by rw [g1]; rfl
  have wa : im_i M1 8 0 = 0 := by rw [g1]; rfl
  have eF : f_HSetter_followAll Mc = bs1 (lp (uc2 (f_HSetter_followAll_L32)) (0, M1)) (fun (M22 : im_M) => some ((10 : Int32), M22)) (fun t => some t) := by
    unfold f_HSetter_followAll f_HTape_rewind
    rw [gd_pos (by decide), bd1_s, g1]
    rfl
  have w11 : im_i M1 1 1 = nI n := (c1.1 1 1 (by decide) (by decide)).trans t1
  have e2c : im_i M1 2 = im_i Mc 2 := fr_c c1 2 (by decide) (by decide)
  have hCS : CS M1 0 (bl (fun p => im_i Mc 2 p &&& 255) 0 n) := ⟨by omega, w6, 0, n, wa, by rw [Nat.zero_add]; exact w11, by omega, by rw [e2c]⟩
  have cn := (LV_cn hCS.2.2).1
  have hMS : MS N5 (bl (fun p => im_i Mc 2 p &&& 255) 0 n) := by
    have e : bl (im_i N3 72) 0 n = bl (fun p => im_i Mc 2 p &&& 255) 0 n := bl_c (fun p _ hp => by
      rw [f3.1 72 p (by decide) (by simp), k72 p (by omega), ← (hB p (by omega)).2]
      exact (tB p (by omega)).1)
    rw [e] at m4
    exact MS_fr f5 (by decide +kernel) m4
  have hLI : LI n 6000 (0, M1) N5 := by
    refine ⟨false, 0, 0, 0, _, _, by omega, rfl, ⟨w8, y18, VV_fr c1 g5 (by decide +kernel) (by decide +kernel) hV, ⟨n, w11, hn, fun p hp => ?_⟩, ⟨[], [], ⟨w4, fun k x hk => by cases hk⟩, ⟨y35, fun k x hk => by cases hk⟩, ⟨w3, fun k z hk => by cases hk⟩, ⟨y37, fun k z hk => by cases hk⟩, by show (0 : Nat) ≤ 12; omega, by show (0 : Nat) ≤ 120; omega, fun x hx => by cases hx⟩, fun z => by cases z⟩, fun _ => rfl, hCS, hMS, rfl, ?_, ⟨w9, y11, by omega, by omega⟩, fun z => absurd z (by omega), w11, ?_, hn⟩
    · rw [e2c]
      exact (tB p hp).2
    · rw [cn]
      exact y9
    · show im_i N5 71 2 = nI n
      rw [f5.1 71 2 (by decide) (by decide), f4.1 71 2 (by decide) (by decide)]
      exact z32
  obtain ⟨⟨x, M2⟩, eL, N9, e9, x13, xF, xV, xp, xz⟩ := two_loop hLI
  replace x13 : im_i N9 71 13 = x := x13
  replace xF : FL x := xF
  replace xV : VV M2 N9 := xV
  replace xp : ¬ x = 0 → im_i N9 71 14 = im_i M2 15 7 := xp
  replace xz : x = 0 → im_i N9 71 14 = -1 ∧ ∃ LL A, STg M2 N9 LL A := xz
  have eF2 := eF.trans eL
  have ff := f_HSetter_followAll_fr eF2
  have u11 : im_i M2 1 1 = nI n := (ff.1 1 1 (by decide +kernel) (by decide)).trans t1
  have u2 : im_i M2 2 = im_i Mc 2 := fr_c ff 2 (by decide +kernel) (by decide)
  have eR : f_MScriptRows_read N2 = if im_i N9 71 13 ≤ 0 then some (im_i N9 71 35, N9) else some (-1, im_setI (im_setI N9 71 35 0) 71 37 0) := by
    unfold f_MScriptRows_read
    rw [← h3, z32, e4, bd1_s, ← h5, e9, bd1_s]
  unfold f_H_read f_M_read
  rw [eF2, bd2_s, eW, bd2_s, e2, bd1_s, eR, x13]
  by_cases c : x = 0
  · subst c
    obtain ⟨p14, LL, A, hg⟩ := xz rfl
    have sd := stg_done hg
    unfold f_HSetter_finish
    rw [if_pos rfl, bd2_s, if_pos (by decide), bd2_s]
    have e35 : im_i N9 71 35 = nI LL.length := hg.2.1.1
    have ge : (0 : Int32) ≤ nI LL.length := by
      have : ((0 : Int32) ≤ nI LL.length) = (0 ≤ LL.length) := nIl (x := 0) (by omega) (by have := hg.2.2.2.2.1; omega)
      rw [this]; omega
    rw [e35, if_pos ge]
    refine ed_mk (ed_mk ⟨hg.1.1, ⟨0, by omega, rfl, rfl, fun k hk => absurd hk (by omega)⟩, ⟨x13, p14⟩, ?_, ?_, ?_⟩)
    · have := sd.1
      rw [e35] at this
      rw [← e35]
      exact sd.1
    · exact sd.2
    · exact xV
  · have xn : ¬ x ≤ 0 := by
      rcases xF with z | z
      · exact absurd z c
      · exact z
    unfold f_HSetter_finish
    rw [if_neg c, bd2_s, if_neg xn, bd2_s, if_neg (show ¬ (0 : Int32) ≤ -1 by decide)]
    have er : f_MScriptRows_read N2 = some (-1, im_setI (im_setI N9 71 35 0) 71 37 0) := by rw [eR, x13, if_neg xn]
    have fr2 := f_MScriptRows_read_fr er
    have v69 : im_i N9 69 2 = nI n := by
      have a := fr2.1 69 2 (by decide +kernel) (by decide)
      replace a : im_i N9 69 2 = im_i N2 69 2 := a
      rw [a, f2.1 69 2 (by decide) (by decide), f1.1 69 2 (by decide) (by decide)]
      exact t2
    have v70 : im_i N9 70 = im_i Mr 70 := by
      have a := fr_c fr2 70 (by decide +kernel) (by decide)
      replace a : im_i N9 70 = im_i N2 70 := a
      rw [a, fr_c f2 70 (by decide) (by decide), fr_c f1 70 (by decide) (by decide)]
    refine ed_mk (ed_mk ⟨rfl, ⟨n, hn, u11, v69, ?_⟩, ⟨x13, xp c⟩, ⟨0, by omega, rfl, rfl, fun k hk => absurd hk (by omega)⟩, ⟨⟨0, by omega, rfl, rfl, fun k hk => absurd hk (by omega)⟩, ⟨0, 0, rfl, by omega, rfl, by omega, fun k hk => absurd hk (by omega), fun k hk => absurd hk (by omega)⟩⟩, xV⟩)
    show ∀ k, k < n → im_i N9 70 k = im_i M2 2 k &&& 255 ∧ isB (im_i M2 2 k)
    rw [v70, u2]
    exact tB
theorem x_4 : owed 4 := by
  intro L xs dep i w M P hL hi hM hR hk _ hn
  have hT : RT (im_i M 1 1) (im_i M 69 2) (im_i M 2) (im_i M 70) := hR.1
  have hV : VV M M := hR.2.2.2.2.2.1
  obtain ⟨r1, e1, _⟩ := two_read hT hV
  have f1 := f_H_read_fr e1
  have hT2 : RT (im_i M 1 1) (im_i r1.2 69 2) (im_i M 2) (im_i r1.2 70) := by
    rw [f1.1 69 2 (by decide +kernel) (by decide), fr_c f1 70 (by decide +kernel) (by decide)]
    exact hT
  have hV2 : VV M r1.2 := VV_fr (A1 := 0) (F1 := []) fr_refl f1 (by decide +kernel) (by decide +kernel) hV
  obtain ⟨r1', e1', r2, e2, e12, hD⟩ := two_read hT2 hV2
  rw [e1] at e1'
  cases e1'
  refine law_4 (K := fun w M => RL w M) hL hi hM hk ⟨r1, e1, r2, e2, e12, ?_⟩ hn
  have f2 := f_M_read_fr e2
  have F : fr (258439160 ||| 618965297276207267804348416) [(1, 1), (1, 6), (1, 11), (11, 3), (15, 4), (15, 6), (15, 7), (15, 8), (15, 9), (15, 10), (15, 11), (15, 12), (15, 15), (15, 16), (19, 3), (23, 0), (23, 1), (23, 2), (23, 4), (23, 5), (23, 6), (23, 8), (23, 9), (69, 0), (69, 2), (71, 0), (71, 2), (71, 8), (71, 9), (71, 10), (71, 11), (71, 12), (71, 13), (71, 14), (71, 17), (71, 18), (71, 19), (71, 20), (71, 21), (71, 22), (71, 23), (71, 25), (71, 26), (71, 32), (71, 33), (71, 34), (71, 35), (71, 37)] M r2.2 := fr_tr (fr_mono (by decide +kernel) (by decide) f2) (fr_mono (by decide +kernel) (by decide) f1)
  have cc : ∀ a k, a < 69 → im_i r2.2 a k = im_i r1.2 a k := fun a k ha => by
    refine f2.1 a k ?_ ?_
    · have : ∀ a : Fin 69, Nat.testBit 618965297276207267804348416 a.val = false := by decide +kernel
      exact this ⟨a, ha⟩
    · simp
      omega
  have ca : ∀ a, a < 69 → im_i r2.2 a = im_i r1.2 a := fun a ha => funext fun k => cc a k ha
  obtain ⟨d1, d2, d3, d4, d5⟩ := hD
  rw [← cc 1 1 (by omega), ← ca 2 (by omega)] at d1
  rw [← cc 15 6 (by omega), ← cc 15 7 (by omega)] at d2
  rw [← cc 15 4 (by omega), ← ca 16 (by omega)] at d3
  rw [← cc 15 4 (by omega), ← ca 16 (by omega), ← cc 11 3 (by omega), ← ca 13 (by omega), ← ca 14 (by omega)] at d4
  have d5' : VV r2.2 r2.2 := by
    unfold VV at d5 ⊢
    rw [← ca 3 (by omega), ← ca 4 (by omega), ← ca 5 (by omega), ← ca 6 (by omega)] at d5
    exact d5
  exact RL_R F d1 d2 d3 d4 d5' hR
