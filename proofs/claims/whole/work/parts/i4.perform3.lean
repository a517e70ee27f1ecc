/-! COMMANDS THAT CARRY DATA, LABELS, FORMS -/
theorem cpyN {a b m k n : Nat} (h1 : a + k ≤ m) (h2 : b + k ≤ n) (hm : m < 100000) (hn : n < 100000) : cpy (nI a) m (nI b) n (nI k) := by
  have nn : ∀ z : Nat, z < 100000 → ¬ nI z < 0 := fun z hz => by
    have : (nI z < 0) = (z < 0) := nIlt (c := 0) (by omega) (by omega)
    rw [this]; omega
  refine ⟨nn _ (by omega), nn _ (by omega), nn _ (by omega), ?_, ?_⟩
  · rw [nI_clamp (by omega), nI_clamp (by omega)]; exact h1
  · rw [nI_clamp (by omega), nI_clamp (by omega)]; exact h2
theorem po_X {Mc Mr : im_M} {d n : Nat} {T : List Int32} (q : ST Mc Mr true) (hc : CS Mc d T) (hm : MS Mr T) (h9 : im_i Mr 71 9 = nI d) (hD : DTA Mc Mr n) : PO Mc Mr 10 d true := by
  obtain ⟨hn, d1, d2, d3⟩ := hD
  have f0 : fr (2 ^ 81) [] Mr (im_setI Mr 81 10 (nI n)) := fr_I (by decide) fr_refl
  obtain ⟨M28, e28, f28, v28⟩ := s_stX (M := im_setI Mr 81 10 (nI n)) (v13 := im_i Mr 78 0)
  have h1 : fr (2 ^ 25) [(23, 8)] Mc (im_setI (im_setA Mc 25 (va_cpy (im_i Mc 10) (im_i Mc 25) 0 0 n)) 23 8 (nI n)) := fr_F (by decide) (fr_A (by decide) fr_refl)
  have h2 : fr (2 ^ 81 ||| 2 ^ 83) [] Mr M28 := fr_tr (fr_mono (by decide) (by decide) f28) (fr_mono (by decide) (by decide) f0)
  have v81 : ∀ j, im_i M28 81 j = if j = 10 then nI n else im_i Mr 81 j := fun j => by
    rw [f28.1 81 j (by decide) (by simp)]
    rfl
  refine PO_mk (T := T) ?_ ?_ h1 h2 (ST_fld h1 h2 q (fun wk m e => ⟨wk, n, ⟨hn, rfl, by rw [v81, if_pos rfl], fun i hi => ?_⟩, ?_, ?_, e.2.2.2⟩)) (fun z => by cases z) hc hm h9
  · unfold f_HSetter_perform f_HSetter_performOfField f_HField_hold
    rw [gd_pos (by decide), if_neg (by decide), if_neg (by decide), if_neg (by decide), if_neg (by decide), if_neg (by decide), if_neg (by decide), if_neg (by decide), if_neg (by decide), if_neg (by decide), if_neg (by decide), if_pos (by decide), d1, gd_pos (show cpy 0 200 0 200 (nI n) from cpyN (a := 0) (b := 0) (by omega) (by omega) (by omega) (by omega)), nI_clamp (by omega)]
    rfl
  · rw [lc_t.2.2.2.2.2.2.2.2.2.2.1]
    unfold f_MScriptRows_obey f_MScriptRows_storeData
    rw [if_neg (by decide), if_neg (by decide), if_pos (by decide), gd_pos (by decide), if_pos (by decide), if_neg (by decide), bd1_s, gd_pos (by decide), bd1_s, d2]
    show bd1 (bd1 (lp (uc2 (f_MScriptRows_storeData_L54 88 (im_i Mr 78 0))) (0, im_setI Mr 81 10 (nI n))) fun (M28 : im_M) => some M28) (fun (M3 : im_M) => some M3) = _
    rw [e28]
    rfl
  · rw [v28 i (by omega)]
    show im_i Mr 79 i = (if 0 ≤ i ∧ i < 0 + n then im_i Mc 10 (0 + (i - 0)) else _) &&& 255 ∧ isB (if 0 ≤ i ∧ i < 0 + n then im_i Mc 10 (0 + (i - 0)) else _)
    rw [if_pos (by omega), Nat.zero_add, Nat.sub_zero]
    exact d3 i hi
  · have g := e.2.1
    unfold FG at g ⊢
    rw [v81, v81, v81, v81, v81, if_neg (by decide), if_neg (by decide), if_neg (by decide), if_neg (by decide), if_neg (by decide)]
    exact g
  · exact KD_c (Mc := Mc) (Mr := Mr) rfl rfl (fun j hj => by rw [v81, if_neg (by omega)]) e.2.2.1
theorem V_t : (xa_0 (((12 : Int32) * nI 11 + (3 : Int32) * nI 0) + 1) = nI 0 ∧ xa_0 (((12 : Int32) * nI 11 + (3 : Int32) * nI 0) + 2) = nI 9) ∧ (xa_0 (((12 : Int32) * nI 2 + (3 : Int32) * nI 0) + 1) = nI 0 ∧ xa_0 (((12 : Int32) * nI 2 + (3 : Int32) * nI 0) + 2) = nI 9) ∧ (xa_0 (((12 : Int32) * nI 0 + (3 : Int32) * nI 0) + 1) = nI 0 ∧ xa_0 (((12 : Int32) * nI 0 + (3 : Int32) * nI 0) + 2) = nI 7) ∧ (xa_0 (((12 : Int32) * nI 7 + (3 : Int32) * nI 0) + 1) = nI 0 ∧ xa_0 (((12 : Int32) * nI 7 + (3 : Int32) * nI 0) + 2) = nI 7) ∧ (xa_0 (((12 : Int32) * nI 1 + (3 : Int32) * nI 0) + 1) = nI 1 ∧ xa_0 (((12 : Int32) * nI 1 + (3 : Int32) * nI 0) + 2) = nI 512) ∧ (xa_0 (((12 : Int32) * nI 1 + (3 : Int32) * nI 1) + 1) = nI 1 ∧ xa_0 (((12 : Int32) * nI 1 + (3 : Int32) * nI 1) + 2) = nI 512) := by decide +kernel
theorem po_V {Mc Mr : im_M} {d : Nat} {T : List Int32} (q : ST Mc Mr true) (hc : CS Mc d T) (hm : MS Mr T) (h9 : im_i Mr 71 9 = nI d) (hN : im_i Mr 78 0 = im_i Mc 9 0) (hR : RG3 Mc 11 0) : PO Mc Mr 11 d true := by
  obtain ⟨k, ek, _, k9⟩ := RG_n hR V_t.1.1 V_t.1.2 (by omega) (by omega)
  obtain ⟨n, hn, s1, s2, s3⟩ := q.2.2.1.2 k (by omega)
  have er : im_i Mr 78 0 = nI k := by rw [hN, ek]
  have f0 : fr (2 ^ 81) [] Mr (im_setI Mr 81 10 (nI n)) := fr_I (by decide) fr_refl
  obtain ⟨M28, e28, f28, v28⟩ := s_stV (M := im_setI Mr 81 10 (nI n)) (j := k) (by omega)
  have h1 : fr (2 ^ 25) [(23, 8)] Mc (im_setI (im_setA Mc 25 (va_cpy (im_i Mc 5) (im_i Mc 25) (200 * k) 0 n)) 23 8 (nI n)) := fr_F (by decide) (fr_A (by decide) fr_refl)
  have h2 : fr (2 ^ 81 ||| 2 ^ 83) [] Mr M28 := fr_tr (fr_mono (by decide) (by decide) f28) (fr_mono (by decide) (by decide) f0)
  have v81 : ∀ j, im_i M28 81 j = if j = 10 then nI n else im_i Mr 81 j := fun j => by
    rw [f28.1 81 j (by decide) (by simp)]
    rfl
  have e200 : nI k * 200 = nI (200 * k) := by rw [nI_n, nI_mul, Nat.mul_comm]
  refine PO_mk (T := T) ?_ ?_ h1 h2 (ST_fld h1 h2 q (fun wk m e => ⟨wk, n, ⟨hn, rfl, by rw [v81, if_pos rfl], fun i hi => ?_⟩, ?_, ?_, e.2.2.2⟩)) (fun z => by cases z) hc hm h9
  · unfold f_HSetter_perform f_HSetter_performOfField f_HField_hold_1
    rw [gd_pos (by decide), if_neg (by decide), if_neg (by decide), if_neg (by decide), if_neg (by decide), if_neg (by decide), if_neg (by decide), if_neg (by decide), if_neg (by decide), if_neg (by decide), if_neg (by decide), if_neg (by decide), if_pos (by decide), show im_i Mc 9 (Int32.toNatClampNeg 0) = nI k from ek, gd_pos (by rw [inb_nI (by omega)]; omega), nI_clamp (by omega), s1, e200, gd_pos (show cpy (nI (200 * k)) 2000 0 200 (nI n) from cpyN (b := 0) (by omega) (by omega) (by omega) (by omega)), nI_clamp (by omega), nI_clamp (by omega)]
    rfl
  · rw [lc_t.2.2.2.2.2.2.2.2.2.2.2.1]
    unfold f_MScriptRows_obey f_MScriptRows_storeData
    rw [if_neg (by decide), if_neg (by decide), if_pos (by decide), gd_pos (by decide), if_pos (by decide), if_pos (by decide), show im_i Mr 78 (Int32.toNatClampNeg 0) = nI k from er, gd_pos (by rw [inb_nI (by omega)]; omega), nI_clamp (by omega), s2, bd1_s, gd_pos (by decide), bd1_s]
    show bd1 (bd1 (lp (uc2 (f_MScriptRows_storeData_L54 86 (nI k))) (0, im_setI Mr 81 10 (nI n))) fun (M28 : im_M) => some M28) (fun (M3 : im_M) => some M3) = _
    rw [e28]
    rfl
  · rw [v28 i (by omega)]
    show im_i Mr 75 (200 * k + i) = (if 0 ≤ i ∧ i < 0 + n then im_i Mc 5 (200 * k + (i - 0)) else _) &&& 255 ∧ isB (if 0 ≤ i ∧ i < 0 + n then im_i Mc 5 (200 * k + (i - 0)) else _)
    rw [if_pos (by omega), Nat.sub_zero]
    exact s3 i hi
  · have g := e.2.1
    unfold FG at g ⊢
    rw [v81, v81, v81, v81, v81, if_neg (by decide), if_neg (by decide), if_neg (by decide), if_neg (by decide), if_neg (by decide)]
    exact g
  · exact KD_c (Mc := Mc) (Mr := Mr) rfl rfl (fun j hj => by rw [v81, if_neg (by omega)]) e.2.2.1
theorem po_K {Mc Mr : im_M} {b : Bool} {d n : Nat} {T : List Int32} (q : ST Mc Mr b) (hbd : b = false → d = 0) (hc : CS Mc d T) (hm : MS Mr T) (h9 : im_i Mr 71 9 = nI d) (hN : im_i Mr 78 0 = im_i Mc 9 0) (hR : RG3 Mc 2 0) (hD : DTA Mc Mr n) : PO Mc Mr 2 d b := by
  obtain ⟨hn, d1, d2, d3⟩ := hD
  obtain ⟨k, ek, _, k9⟩ := RG_n hR V_t.2.1.1 V_t.2.1.2 (by omega) (by omega)
  have er : im_i Mr 78 0 = nI k := by rw [hN, ek]
  have f0 : fr (2 ^ 76) [] Mr (im_setI Mr 76 k (nI n)) := fr_I (by decide) fr_refl
  obtain ⟨M28, e28, f28, v28⟩ := s_stK (M := im_setI Mr 76 k (nI n)) (j := k) (by omega)
  have h1 : fr (2 ^ 5 ||| 2 ^ 6) [] Mc (im_setI (im_setA Mc 5 (va_cpy (im_i Mc 10) (im_i Mc 5) 0 (200 * k) n)) 6 k (nI n)) := fr_I (by decide) (fr_A (by decide) fr_refl)
  have h2 : fr (2 ^ 75 ||| 2 ^ 76) [] Mr M28 := fr_tr (fr_mono (by decide) (by decide) f28) (fr_mono (by decide) (by decide) f0)
  have e200 : nI k * 200 = nI (200 * k) := by rw [nI_n, nI_mul, Nat.mul_comm]
  refine PO_mk (T := T) ?_ ?_ h1 h2 ?_ hbd hc hm h9
  · unfold f_HSetter_perform f_HTape_keepVariable
    rw [gd_pos (by decide), if_neg (by decide), if_neg (by decide), if_pos (by decide), show im_i Mc 9 (Int32.toNatClampNeg 0) = nI k from ek, d1, e200, gd_pos (show cpy 0 200 (nI (200 * k)) 2000 (nI n) from cpyN (a := 0) (by omega) (by omega) (by omega) (by omega)), gd_pos (by rw [inb_nI (by omega)]; omega), nI_clamp (by omega), nI_clamp (by omega), nI_clamp (by omega)]
    show some (im_setI (im_setA Mc 5 (va_cpy (im_i Mc 10) (im_i Mc 5) 0 (200 * k) n)) 6 k (im_i Mc 1 11)) = _
    rw [d1]
  · rw [lc_t.2.2.1]
    unfold f_MScriptRows_obey f_MScriptRows_storeData
    rw [if_neg (by decide), if_neg (by decide), if_pos (by decide), gd_pos (by decide), if_neg (by decide), show im_i Mr 78 (Int32.toNatClampNeg 0) = nI k from er, gd_pos (by rw [inb_nI (by omega)]; omega), nI_clamp (by omega), d2, bd1_s, e28]
    rfl
  · obtain ⟨a1, a2, a3, a4, ⟨LL, A, a5⟩, a6⟩ := q
    refine ⟨a1, (h2.1 71 18 (by decide) (by decide)).trans a2, ⟨?_, fun j hj => ?_⟩, TB_fr h1 (by decide +kernel) a4, ⟨LL, A, STg_fr h1 h2 (by decide +kernel) (by decide +kernel) a5⟩, fun z => STl_fr h1 h2 (by decide +kernel) (by decide +kernel) (q := a6 z)⟩
    · have := a3.1
      rw [← fr_c h2 74 (by decide) (by decide), ← fr_c h2 73 (by decide) (by decide)] at this
      exact this
    · have v76 : ∀ p, im_i M28 76 p = if p = k then nI n else im_i Mr 76 p := fun p => by
        rw [f28.1 76 p (by decide) (by simp)]
        rfl
      by_cases e : j = k
      · subst e
        refine ⟨n, hn, ?_, by rw [v76, if_pos rfl], fun i hi => ?_⟩
        · show (if j = j then nI n else _) = _
          rw [if_pos rfl]
        · rw [v28, if_pos (by omega), Nat.add_sub_cancel_left]
          show im_i Mr 79 i = (if 200 * j ≤ 200 * j + i ∧ 200 * j + i < 200 * j + n then im_i Mc 10 (0 + (200 * j + i - 200 * j)) else _) &&& 255 ∧ isB (if 200 * j ≤ 200 * j + i ∧ 200 * j + i < 200 * j + n then im_i Mc 10 (0 + (200 * j + i - 200 * j)) else _)
          rw [if_pos (by omega), Nat.zero_add, Nat.add_sub_cancel_left]
          exact d3 i hi
      · obtain ⟨m, hm', s1, s2, s3⟩ := a3.2 j hj
        refine ⟨m, hm', ?_, by rw [v76, if_neg e]; exact s2, fun i hi => ?_⟩
        · show (if j = k then nI n else im_i Mc 6 j) = _
          rw [if_neg e]
          exact s1
        · rw [v28, if_neg (by omega)]
          show im_i Mr 75 (200 * j + i) = (if 200 * k ≤ 200 * j + i ∧ 200 * j + i < 200 * k + n then _ else im_i Mc 5 (200 * j + i)) &&& 255 ∧ isB (if 200 * k ≤ 200 * j + i ∧ 200 * j + i < 200 * k + n then _ else im_i Mc 5 (200 * j + i))
          rw [if_neg (by omega)]
          exact s3 i hi
theorem s_newField {M : im_M} : ed (f_MScriptRows_newField M) (fun R => fr (2 ^ 81) [] M R ∧ im_i R 81 0 = -1 ∧ ∀ j, 1 ≤ j → j < 16 → im_i R 81 j = 0) := by
  have L : ed (lp (uc2 f_MScriptRows_newField_L2) (0, M)) (fun R => fr (2 ^ 81) [] M R ∧ ∀ j, j < 16 → im_i R 81 j = 0) := by
    refine lp_inv (fun m (s : Int32 × im_M) => ∃ i : Nat, i + m = 16 ∧ s.1 = nI i ∧ fr (2 ^ 81) [] M s.2 ∧ ∀ j, j < i → im_i s.2 81 j = 0) ?_ (k := 16) ⟨0, by omega, rfl, fr_refl, fun k hk => absurd hk (by omega)⟩
    rintro m ⟨x3, M4⟩ ⟨i, hi, e1, f, h⟩
    replace e1 : x3 = nI i := e1
    replace f : fr (2 ^ 81) [] M M4 := f
    replace h : ∀ j, j < i → im_i M4 81 j = 0 := h
    subst e1
    show ed (f_MScriptRows_newField_L2 (nI i) M4) _
    unfold f_MScriptRows_newField_L2
    have t : ((16 : Int32) ≤ nI i) = (16 ≤ i) := nIl (x := 16) (by omega) (by omega)
    simp only [t]
    by_cases c : 16 ≤ i
    · rw [if_pos c]
      obtain rfl : i = 16 := by omega
      exact lpo_r ⟨f, h⟩
    · rw [if_neg c, gd_pos (by rw [inb_nI (by omega)]; omega), nI_clamp (by omega)]
      refine lpo_l (m - 1) (by omega) ⟨i + 1, by omega, nI_add i 1, fr_I (by decide) f, fun j hj => ?_⟩
      show (if j = i then 0 else im_i M4 81 j) = _
      by_cases e : j = i
      · rw [if_pos e]
      · rw [if_neg e]
        exact h j (by omega)
  unfold f_MScriptRows_newField
  apply bd1_mk
  refine ed_mono L ?_
  rintro R ⟨f, h⟩
  rw [gd_pos (by decide)]
  refine ed_mk ⟨fr_I (by decide) f, rfl, fun j h1 h2 => ?_⟩
  show (if j = 0 then _ else im_i R 81 j) = 0
  rw [if_neg (by omega)]
  exact h j h2
/-- a new field -/
theorem STf_new {Mc Mr : im_M} (c0 : im_i Mc 23 0 = 0) (c1 : im_i Mc 23 1 = 0) (c2 : im_i Mc 23 2 = -1) (c4 : im_i Mc 23 4 = 0) (c5 : im_i Mc 23 5 = 0) (c6 : im_i Mc 23 6 = 0) (c8 : im_i Mc 23 8 = 0) (r0 : im_i Mr 81 0 = -1) (rj : ∀ j, 1 ≤ j → j < 16 → im_i Mr 81 j = 0) : STf Mc Mr none 0 := by
  refine ⟨⟨by omega, c8, rj 10 (by omega) (by omega), fun i hi => absurd hi (by omega)⟩, ⟨Or.inl ⟨c4, rj 7 (by omega) (by omega)⟩, Or.inl ⟨c5, rj 8 (by omega) (by omega)⟩, ?_, ?_, ?_⟩, ⟨c2, r0⟩, 0, c6, by omega, by omega⟩
  · rw [rj 9 (by omega) (by omega), c6]
  · rw [rj 5 (by omega) (by omega), c0]
  · rw [rj 6 (by omega) (by omega), c1]
theorem sk1 {M : im_M} {a k b j : Nat} {v : Int32} (h : ¬ (b = a ∧ j = k)) : im_i (im_setI M a k v) b j = im_i M b j := by
  rw [mi_I]
  by_cases c : b = a
  · rw [if_pos c, if_neg (fun z => h ⟨c, z⟩)]
  · rw [if_neg c]
theorem hit {M : im_M} {a k : Nat} {v : Int32} : im_i (im_setI M a k v) a k = v := by rw [mi_I, if_pos rfl, if_pos rfl]
theorem po_L {Mc Mr : im_M} {T : List Int32} (q : ST Mc Mr false) (hc : CS Mc 0 T) (hm : MS Mr T) (h9 : im_i Mr 71 9 = nI 0) (hN : ∀ j, j < 2 → im_i Mr 78 j = im_i Mc 9 j) (hR : ∀ k, k < 2 → RG3 Mc 1 k) : PO Mc Mr 1 0 true := by
  obtain ⟨W, eW, W1, W2⟩ := RG_n (hR 0 (by omega)) V_t.2.2.2.2.1.1 V_t.2.2.2.2.1.2 (by omega) (by omega)
  obtain ⟨H, eH, H1, H2⟩ := RG_n (hR 1 (by omega)) V_t.2.2.2.2.2.1 V_t.2.2.2.2.2.2 (by omega) (by omega)
  have eB : f_HSetter_beginLabel Mc = some (im_setI (im_setI (im_setI (im_setI (im_setI (im_setI (im_setI (im_setI (im_setI (im_setI (im_setI (im_setI (im_setI (im_setI (im_setI (im_setI (im_setI (im_setI Mc 15 8 1) 15 10 (im_i Mc 9 0)) 15 11 (im_i Mc 9 1)) 15 12 1) 17 0 0) 17 1 0) 18 0 0) 18 1 1) 18 2 1) 18 3 0) 19 3 0) 23 0 0) 23 1 0) 23 2 (-1)) 23 4 0) 23 5 0) 23 6 0) 23 8 0) := by
    unfold f_HSetter_beginLabel
    rw [gd_pos (by decide), gd_pos (by decide), gd_pos (by decide), gd_pos (by decide), gd_pos (by decide), gd_pos (by decide), gd_pos (by decide), gd_pos (by decide)]
    rfl
  generalize hR1 : (im_setI (im_setI (im_setI (im_setI (im_setI (im_setI (im_setI (im_setI (im_setI (im_setI (im_setI (im_setI (im_setI (im_setI (im_setI (im_setI (im_setI (im_setI Mc 15 8 1) 15 10 (im_i Mc 9 0)) 15 11 (im_i Mc 9 1)) 15 12 1) 17 0 0) 17 1 0) 18 0 0) 18 1 1) 18 2 1) 18 3 0) 19 3 0) 23 0 0) 23 1 0) 23 2 (-1)) 23 4 0) 23 5 0) 23 6 0) 23 8 0) = R1 at eB
  have h1 : fr (2 ^ 17 ||| 2 ^ 18) [(15, 8), (15, 10), (15, 11), (15, 12), (19, 3), (23, 0), (23, 1), (23, 2), (23, 4), (23, 5), (23, 6), (23, 8)] Mc R1 := by
    rw [← hR1]
    exact fr_F (by decide) (fr_F (by decide) (fr_F (by decide) (fr_F (by decide) (fr_F (by decide) (fr_F (by decide) (fr_F (by decide) (fr_F (by decide) (fr_I (by decide) (fr_I (by decide) (fr_I (by decide) (fr_I (by decide) (fr_I (by decide) (fr_I (by decide) (fr_F (by decide) (fr_F (by decide) (fr_F (by decide) (fr_F (by decide) fr_refl)))))))))))))))))
  generalize hN0 : (im_setI (im_setI (im_setI (im_setI (im_setI (im_setI (im_setI (im_setI (im_setI (im_setI (im_setI (im_setI Mr 71 18 1) 71 19 (im_i Mr 78 0)) 71 20 (im_i Mr 78 1)) 71 21 1) 71 22 0) 71 23 0) 80 0 0) 80 1 1) 80 2 1) 80 3 0) 71 25 0) 71 26 0) = N0
  have n0 : fr (2 ^ 80) [(71, 18), (71, 19), (71, 20), (71, 21), (71, 22), (71, 23), (71, 25), (71, 26)] Mr N0 := by
    rw [← hN0]
    exact fr_F (by decide) (fr_F (by decide) (fr_I (by decide) (fr_I (by decide) (fr_I (by decide) (fr_I (by decide) (fr_F (by decide) (fr_F (by decide) (fr_F (by decide) (fr_F (by decide) (fr_F (by decide) (fr_F (by decide) fr_refl)))))))))))
  obtain ⟨R2, e2, f2, r0, rj⟩ := s_newField (M := N0)
  have h2 : fr (2 ^ 80 ||| 2 ^ 81) [(71, 18), (71, 19), (71, 20), (71, 21), (71, 22), (71, 23), (71, 25), (71, 26)] Mr R2 := fr_tr (fr_mono (by decide) (by decide) f2) (fr_mono (by decide) (by decide) n0)
  have g : ∀ k, im_i R2 71 k = im_i N0 71 k := fun k => f2.1 71 k (by decide) (by simp)
  have g80 : im_i R2 80 = im_i N0 80 := fr_c f2 80 (by decide) (by decide)
  have z8 : im_i R1 15 8 = insI true := by
    rw [← hR1]
    repeat rw [sk1 (by decide)]
    exact hit
  have z18 : im_i R2 71 18 = insI true := by
    rw [g, ← hN0]
    repeat rw [sk1 (by decide)]
    exact hit
  obtain ⟨a1, a2, a3, a4, ⟨LL, A, a5⟩, a6⟩ := q
  refine PO_mk (T := T) ?_ ?_ h1 h2 ⟨z8, z18, VV_fr h1 h2 (by decide +kernel) (by decide +kernel) a3, TB_fr h1 (by decide +kernel) a4, ⟨LL, A, STg_fr h1 h2 (by decide +kernel) (by decide +kernel) a5⟩, fun _ => ⟨[], W, H, 1, 0, none, ⟨?_, ?_, ?_, by show (0 : Nat) ≤ 120; omega, by show (0 : Nat) ≤ 0; omega⟩, ⟨⟨?_, ?_, W1, W2⟩, ⟨?_, ?_, H1, H2⟩, ?_, ?_, by omega, by omega⟩, ⟨fun k hk => ?_, ?_, ?_, ?_⟩, ?_⟩⟩ (fun _ => rfl) hc hm h9
  · unfold f_HSetter_perform
    rw [gd_pos (by decide), if_neg (by decide), if_pos (by decide), eB]
    rfl
  · rw [lc_t.2.1]
    unfold f_MScriptRows_obey f_MScriptRows_beginLabel
    rw [if_neg (by decide), if_neg (by decide), if_neg (by decide), if_pos (by decide), gd_pos (by decide), gd_pos (by decide), gd_pos (by decide), gd_pos (by decide), gd_pos (by decide), gd_pos (by decide)]
    have : (im_setI (im_setI (im_setI (im_setI (im_setI (im_setI (im_setI (im_setI (im_setI (im_setI (im_setI (im_setI Mr 71 18 1) 71 19 (im_i (im_setI Mr 71 18 1) 78 (Int32.toNatClampNeg 0))) 71 20 (im_i (im_setI (im_setI Mr 71 18 1) 71 19 (im_i (im_setI Mr 71 18 1) 78 (Int32.toNatClampNeg 0))) 78 (Int32.toNatClampNeg 1))) 71 21 1) 71 22 0) 71 23 0) 80 (Int32.toNatClampNeg 0) 0) 80 (Int32.toNatClampNeg 1) 1) 80 (Int32.toNatClampNeg 2) 1) 80 (Int32.toNatClampNeg 3) 0) 71 25 0) 71 26 0) = N0 := hN0
    rw [this, e2]
    rfl
  · refine ⟨?_, fun k z hz => by cases hz⟩
    rw [← hR1]
    repeat rw [sk1 (by decide)]
    exact hit
  · refine ⟨?_, fun f F hF => by cases hF⟩
    rw [g, ← hN0]
    repeat rw [sk1 (by decide)]
    exact hit
  · rw [g, ← hN0]
    repeat rw [sk1 (by decide)]
    exact hit
  · rw [← hR1]
    repeat rw [sk1 (by decide)]
    rw [hit]
    exact eW
  · rw [g, ← hN0]
    repeat rw [sk1 (by decide)]
    rw [hit, hN 0 (by omega), eW]
  · rw [← hR1]
    repeat rw [sk1 (by decide)]
    rw [hit]
    exact eH
  · rw [g, ← hN0]
    repeat rw [sk1 (by decide)]
    rw [hit, hN 1 (by omega), eH]
  · rw [← hR1]
    repeat rw [sk1 (by decide)]
    exact hit
  · rw [g, ← hN0]
    repeat rw [sk1 (by decide)]
    exact hit
  · rw [g80, ← hN0, ← hR1]
    have : k = 0 ∨ k = 1 ∨ k = 2 ∨ k = 3 := by omega
    rcases this with rfl | rfl | rfl | rfl
    all_goals
      repeat rw [sk1 (by decide)]
      rw [hit]
      repeat rw [sk1 (by decide)]
      rw [hit]
  · rw [← hR1]
    refine ⟨0, 1, 1, 0, ?_, by omega, ?_, by omega, by omega, ?_, by omega, by omega, ?_, by omega⟩
    all_goals
      repeat rw [sk1 (by decide)]
      exact hit
  · rw [g, ← hN0, ← hR1]
    repeat rw [sk1 (by decide)]
    rw [hit]
    repeat rw [sk1 (by decide)]
    rw [hit]
  · rw [g, ← hN0, ← hR1]
    repeat rw [sk1 (by decide)]
    rw [hit]
    repeat rw [sk1 (by decide)]
    rw [hit]
  · refine STf_new ?_ ?_ ?_ ?_ ?_ ?_ ?_ r0 rj
    all_goals
      rw [← hR1]
      repeat rw [sk1 (by decide)]
      exact hit
theorem lbL_in {W H a m : Nat} {x : Nat × Nat × Nat × Nat} : ∀ {C : Nat}, x ∈ lbL W H a m C → x.1 = W ∧ x.2.1 = H ∧ x.2.2.1 + x.2.2.2 ≤ a + C * m := by
  intro C
  induction C with
  | zero => intro h; cases h
  | succ C ih =>
    intro h
    have h : x ∈ lbL W H a m C ++ [(W, H, a + C * m, m)] := h
    rw [Nat.succ_mul]
    rcases List.mem_append.mp h with h | h
    · obtain ⟨h1, h2, h3⟩ := ih h
      exact ⟨h1, h2, by omega⟩
    · rcases List.mem_cons.mp h with rfl | h
      · refine ⟨rfl, rfl, ?_⟩
        show a + C * m + m ≤ _
        omega
      · cases h
theorem po_E {Mc Mr : im_M} {LL : List (Nat × Nat × Nat × Nat)} {A : List (FDt × OD × Nat)} {Fs : List FDt} {W H C : Nat} {T : List Int32} (q : ST Mc Mr true) (hg : STg Mc Mr LL A) (hd : STd Mc Mr Fs) (hs : STs Mc Mr W H C) (hc : CS Mc 0 T) (hm : MS Mr T) (h9 : im_i Mr 71 9 = nI 0) (hl : LL.length + C ≤ 12) (ho : A.length + C * (drL 0 Fs).length ≤ 120) : PO Mc Mr 3 0 false := by
  obtain ⟨R1, e1, h1, z8, c1, l1⟩ := s_endC hd.1 hg.2.2.1 hg.1 hs.1.1 hs.2.1.1 hs.2.2.1 hl ho
  obtain ⟨R2, e2, h2, z18, c2, l2⟩ := s_endM hd.2.1 (by have := hd.2.2.2; omega) hd.2.2.1 hg.2.2.2.1 hg.2.1 hs.1.2.1 hs.2.1.2.1 hs.2.2.2.1 hl ho
  obtain ⟨a1, a2, a3, a4, _, _⟩ := q
  have al : (A ++ cpsL Fs C).length = A.length + C * (drL 0 Fs).length := by rw [List.length_append, cpsL_len]
  refine PO_mk (T := T) ?_ ?_ h1 h2 ⟨z8, z18, VV_fr h1 h2 (by decide +kernel) (by decide +kernel) a3, TB_fr h1 (by decide +kernel) a4, ⟨_, _, l1, l2, c1, c2, ?_, ?_, ?_⟩, fun z => by cases z⟩ (fun _ => rfl) hc hm h9
  · unfold f_HSetter_perform
    rw [gd_pos (by decide), if_neg (by decide), if_neg (by decide), if_neg (by decide), if_pos (by decide), e1]
    rfl
  · rw [lc_t.2.2.2.1]
    unfold f_MScriptRows_obey
    rw [if_neg (by decide), if_pos (by decide), e2]
    rfl
  · rw [List.length_append, lbL_len]
    exact hl
  · rw [al]
    exact ho
  · intro x hx
    rw [al]
    rcases List.mem_append.mp hx with hx | hx
    · have := hg.2.2.2.2.2.2 x hx
      omega
    · obtain ⟨x1, x2, x3⟩ := lbL_in hx
      rw [x1, x2]
      exact ⟨hs.1.2.2.1, hs.1.2.2.2, hs.2.1.2.2.1, hs.2.1.2.2.2, x3⟩
