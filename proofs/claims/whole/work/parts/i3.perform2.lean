/-! MORE COMMANDS -/
theorem kL_t : ∀ t : Fin 9, (¬ lc (t.val + 13) = 59 ∧ ¬ lc (t.val + 13) = 69 ∧ ¬ (lc (t.val + 13) = 75 ∨ lc (t.val + 13) = 86 ∨ lc (t.val + 13) = 88) ∧ ¬ lc (t.val + 13) = 76 ∧ ¬ lc (t.val + 13) = 83 ∧ ¬ lc (t.val + 13) = 85 ∧ ¬ lc (t.val + 13) = 72 ∧ ¬ lc (t.val + 13) = 67 ∧ ¬ lc (t.val + 13) = 79 ∧ ¬ lc (t.val + 13) = 82 ∧ ¬ lc (t.val + 13) = 35 ∧ ¬ lc (t.val + 13) = 68) := by decide +kernel
theorem kO_t {M : im_M} (t : Fin 9) : f_MScriptRows_kindOf (lc (t.val + 13)) M = some (xa_2 (nI t.val)) := by
  unfold f_MScriptRows_kindOf
  revert t
  decide +kernel
theorem s_setD {M : im_M} : ed (lp (uc2 (f_MScriptRows_set_L131 68)) (0, M)) (fun R => fr (2 ^ 80) [] M R ∧ ∀ k, k < 4 → im_i R 80 k = im_i M 78 k) := by
  refine lp_inv (fun m (s : Int32 × im_M) => ∃ i : Nat, i + m = 4 ∧ s.1 = nI i ∧ fr (2 ^ 80) [] M s.2 ∧ ∀ k, k < i → im_i s.2 80 k = im_i M 78 k) ?_ (k := 4) ⟨0, by omega, rfl, fr_refl, fun k hk => absurd hk (by omega)⟩
  rintro m ⟨x3, M4⟩ ⟨i, hi, e1, f, h⟩
  replace e1 : x3 = nI i := e1
  replace f : fr (2 ^ 80) [] M M4 := f
  replace h : ∀ k, k < i → im_i M4 80 k = im_i M 78 k := h
  subst e1
  show ed (f_MScriptRows_set_L131 68 (nI i) M4) _
  unfold f_MScriptRows_set_L131
  have nm : f_MScriptRows_numbers 68 M4 = some (nI 4) := rfl
  rw [nm, bd1_s, if_nIl (by omega) (by omega)]
  by_cases c : 4 ≤ i
  · rw [if_pos c]
    obtain rfl : i = 4 := by omega
    exact lpo_r ⟨f, h⟩
  · rw [if_neg c, if_neg (fun z => z rfl), gd_pos (by rw [inb_nI (by omega)]; omega), gd_pos (by rw [inb_nI (by omega)]; omega), nI_clamp (by omega), fr_c f 78 (by decide) (by decide), bd1_s]
    refine lpo_l (m - 1) (by omega) ⟨i + 1, by omega, nI_add i 1, fr_I (by decide) f, fun k hk => ?_⟩
    show (if k = i then im_i M 78 i else im_i M4 80 k) = _
    by_cases e : k = i
    · rw [if_pos e, e]
    · rw [if_neg e]
      exact h k (by omega)
theorem s_setK {M : im_M} {w : Nat} (w1 : 13 ≤ w) (w2 : w < 22) : ed (lp (uc2 (f_MScriptRows_set_L131 (lc w))) (0, M)) (fun R => fr (2 ^ 81) [] M R ∧ ∀ j, im_i R 81 j = if 1 ≤ j ∧ j < 1 + hs w then im_i M 78 (j - 1) else im_i M 81 j) := by
  have h4 := (hs_t ⟨w, by omega⟩).2
  replace h4 : hs w ≤ 4 := h4
  have t := kL_t ⟨w - 13, by omega⟩
  have ew : w - 13 + 13 = w := by omega
  replace t : (¬ lc (w - 13 + 13) = 59 ∧ ¬ lc (w - 13 + 13) = 69 ∧ ¬ (lc (w - 13 + 13) = 75 ∨ lc (w - 13 + 13) = 86 ∨ lc (w - 13 + 13) = 88) ∧ ¬ lc (w - 13 + 13) = 76 ∧ ¬ lc (w - 13 + 13) = 83 ∧ ¬ lc (w - 13 + 13) = 85 ∧ ¬ lc (w - 13 + 13) = 72 ∧ ¬ lc (w - 13 + 13) = 67 ∧ ¬ lc (w - 13 + 13) = 79 ∧ ¬ lc (w - 13 + 13) = 82 ∧ ¬ lc (w - 13 + 13) = 35 ∧ ¬ lc (w - 13 + 13) = 68) := t
  rw [ew] at t
  refine lp_inv (fun m (s : Int32 × im_M) => ∃ i : Nat, i + m = hs w ∧ s.1 = nI i ∧ fr (2 ^ 81) [] M s.2 ∧ ∀ j, im_i s.2 81 j = if 1 ≤ j ∧ j < 1 + i then im_i M 78 (j - 1) else im_i M 81 j) ?_ (k := hs w) ⟨0, by omega, rfl, fr_refl, fun j => by rw [if_neg (by omega)]⟩
  rintro m ⟨x3, M4⟩ ⟨i, hi, e1, f, h⟩
  replace e1 : x3 = nI i := e1
  replace f : fr (2 ^ 81) [] M M4 := f
  replace h : ∀ j, im_i M4 81 j = if 1 ≤ j ∧ j < 1 + i then im_i M 78 (j - 1) else im_i M 81 j := h
  subst e1
  show ed (f_MScriptRows_set_L131 (lc w) (nI i) M4) _
  unfold f_MScriptRows_set_L131
  have nm : f_MScriptRows_numbers (lc w) M4 = some (nI (hs w)) := num_t ⟨w, by omega⟩
  rw [nm, bd1_s, if_nIl (by omega) (by omega)]
  by_cases c : hs w ≤ i
  · rw [if_pos c]
    obtain rfl : i = hs w := by omega
    exact lpo_r ⟨f, h⟩
  · have e1i : (1 : Int32) + nI i = nI (1 + i) := by rw [show (1 : Int32) = nI 1 from rfl, nI_add]
    rw [if_neg c, if_pos t.2.2.2.2.2.2.2.2.2.2.2, e1i, gd_pos (by rw [inb_nI (by omega)]; omega), gd_pos (by rw [inb_nI (by omega)]; omega), nI_clamp (by omega), nI_clamp (by omega), fr_c f 78 (by decide) (by decide), bd1_s]
    refine lpo_l (m - 1) (by omega) ⟨i + 1, by omega, nI_add i 1, fr_I (by decide) f, fun j => ?_⟩
    show (if j = 1 + i then im_i M 78 i else im_i M4 81 j) = _
    by_cases e : j = 1 + i
    · rw [if_pos e, if_pos (by omega), e, Nat.add_sub_cancel_left]
    · rw [if_neg e, h]
      by_cases g : 1 ≤ j ∧ j < 1 + i
      · rw [if_pos g, if_pos (by omega)]
      · rw [if_neg g, if_neg (by omega)]
theorem cpy44 : cpy 0 4 0 4 4 := ⟨by decide, by decide, by decide, by decide, by decide⟩
theorem po_D {Mc Mr : im_M} {d : Nat} {T : List Int32} (q : ST Mc Mr true) (hc : CS Mc d T) (hm : MS Mr T) (h9 : im_i Mr 71 9 = nI d) (hN : ∀ j, j < 4 → im_i Mr 78 j = im_i Mc 9 j) (hR : ∀ k, k < 4 → RG3 Mc 6 k) : PO Mc Mr 6 d true := by
  obtain ⟨M11, e11, f11, v11⟩ := s_setD (M := Mr)
  have h1 : fr (2 ^ 18) [] Mc (im_setA Mc 18 (va_cpy (im_i Mc 9) (im_i Mc 18) 0 0 4)) := fr_A (by decide) fr_refl
  have h2 : fr (2 ^ 80 ||| 2 ^ 81) [] Mr (im_setI M11 81 0 (im_i M11 81 0)) := fr_I (by decide) (fr_mono (by decide) (by decide) f11)
  have v18 : ∀ k, k < 4 → im_i (im_setA Mc 18 (va_cpy (im_i Mc 9) (im_i Mc 18) 0 0 4)) 18 k = im_i Mc 9 k := fun k hk => by
    show (if 0 ≤ k ∧ k < 0 + 4 then im_i Mc 9 (0 + (k - 0)) else _) = _
    rw [if_pos (by omega), Nat.zero_add, Nat.sub_zero]
  refine PO_mk (T := T) ?_ ?_ h1 h2 (ST_lab h1 h2 q ?_) (fun z => by cases z) hc hm h9
  · unfold f_HSetter_perform
    rw [gd_pos (by decide), if_neg (by decide), if_neg (by decide), if_neg (by decide), if_neg (by decide), if_neg (by decide), if_neg (by decide), if_pos (by decide), gd_pos cpy44]
    rfl
  · rw [lc_t.2.2.2.2.2.2.1]
    unfold f_MScriptRows_obey f_MScriptRows_set
    rw [if_neg (by decide), if_neg (by decide), if_neg (by decide), if_neg (by decide), if_neg (by decide), if_neg (by decide), if_pos (by decide), if_pos (by decide), if_pos (by decide), if_pos (by decide), if_pos (by decide), e11, bd1_s, if_neg (by decide), gd_pos (by decide), bd1_s, gd_pos (by decide)]
    rfl
  · obtain ⟨Fs, W, H, C, n, wk, a, b, c, e⟩ := q.2.2.2.2.2 rfl
    obtain ⟨z0, e0, l0, u0⟩ := RG_n (hR 0 (by omega)) C_t.2.2.1.1 C_t.2.2.1.2 (by omega) (by omega)
    obtain ⟨z1, e1, l1, u1⟩ := RG_n (hR 1 (by omega)) C_t.2.2.2.1.1 C_t.2.2.2.1.2 (by omega) (by omega)
    obtain ⟨z2, e2, l2, u2⟩ := RG_n (hR 2 (by omega)) C_t.2.2.2.2.1.1 C_t.2.2.2.2.1.2 (by omega) (by omega)
    obtain ⟨z3, e3, l3, u3⟩ := RG_n (hR 3 (by omega)) C_t.2.2.2.2.2.1 C_t.2.2.2.2.2.2 (by omega) (by omega)
    have f81 : im_i (im_setI M11 81 0 (im_i M11 81 0)) 81 = im_i Mr 81 := by
      funext j
      show (if j = 0 then im_i M11 81 0 else im_i M11 81 j) = _
      by_cases z : j = 0
      · rw [if_pos z, z]
        exact f11.1 81 0 (by decide) (by decide)
      · rw [if_neg z]
        exact f11.1 81 j (by decide) (by simp)
    refine ⟨Fs, W, H, C, n, wk, STd_fr h1 h2 (by decide +kernel) (by decide +kernel) a, STs_fr h1 h2 (by decide +kernel) (by decide +kernel) b, ⟨fun k hk => ?_, ⟨z0, z1, z2, z3, ?_⟩, ?_, ?_⟩, ?_⟩
    · rw [v18 k hk]
      show im_i M11 80 k = _
      rw [v11 k hk]
      exact hN k hk
    · rw [v18 0 (by omega), v18 1 (by omega), v18 2 (by omega), v18 3 (by omega)]
      exact ⟨e0, u0, e1, l1, u1, e2, l2, u2, e3, by omega⟩
    · show im_i M11 71 22 = im_i Mc 17 0
      rw [f11.1 71 22 (by decide) (by decide)]
      exact c.2.2.1
    · show im_i M11 71 23 = im_i Mc 17 1
      rw [f11.1 71 23 (by decide) (by decide)]
      exact c.2.2.2
    · have f83 : im_i (im_setI M11 81 0 (im_i M11 81 0)) 83 = im_i Mr 83 := fr_c h2 83 (by decide) (by decide)
      cases wk with
      | none =>
        unfold STf KD FB FG at e ⊢
        rw [f81, f83]
        exact e
      | some w =>
        unfold STf KD FB FG FK at e ⊢
        rw [f81, f83]
        exact e
theorem po_T {Mc Mr : im_M} {d w : Nat} {T : List Int32} (w1 : 13 ≤ w) (w2 : w < 22) (q : ST Mc Mr true) (hc : CS Mc d T) (hm : MS Mr T) (h9 : im_i Mr 71 9 = nI d) (hN : ∀ j, j < hs w → im_i Mr 78 j = im_i Mc 9 j) (hR : ∀ k, k < hs w → RG3 Mc w k) : PO Mc Mr w d true := by
  obtain ⟨M11, e11, f11, v11⟩ := s_setK (M := Mr) w1 w2
  have t := kL_t ⟨w - 13, by omega⟩
  have ko := kO_t (M := M11) ⟨w - 13, by omega⟩
  have ew : w - 13 + 13 = w := by omega
  replace t : (¬ lc (w - 13 + 13) = 59 ∧ ¬ lc (w - 13 + 13) = 69 ∧ ¬ (lc (w - 13 + 13) = 75 ∨ lc (w - 13 + 13) = 86 ∨ lc (w - 13 + 13) = 88) ∧ ¬ lc (w - 13 + 13) = 76 ∧ ¬ lc (w - 13 + 13) = 83 ∧ ¬ lc (w - 13 + 13) = 85 ∧ ¬ lc (w - 13 + 13) = 72 ∧ ¬ lc (w - 13 + 13) = 67 ∧ ¬ lc (w - 13 + 13) = 79 ∧ ¬ lc (w - 13 + 13) = 82 ∧ ¬ lc (w - 13 + 13) = 35 ∧ ¬ lc (w - 13 + 13) = 68) := t
  replace ko : f_MScriptRows_kindOf (lc (w - 13 + 13)) M11 = some (xa_2 (nI (w - 13))) := ko
  rw [ew] at t ko
  obtain ⟨t1, t2, t3, t4, t5, t6, t7, t8, t9, t10, t11, t12⟩ := t
  have kk : ∀ z : Nat, z < 100 → (nI w = nI z) = (w = z) := fun z hz => nIe (by omega) (by omega)
  have nz : ∀ z : Nat, z < 100 → ¬ w = z → ¬ nI w = nI z := fun z hz hn => by rw [kk z hz]; exact hn
  have e13 : nI w - 13 = nI (w - 13) := nI_sm 13 (by show 13 ≤ w; omega)
  have h4 := (hs_t ⟨w, by omega⟩).2
  replace h4 : hs w ≤ 4 := h4
  have h1 : fr (2 ^ 24) [(23, 2)] Mc (im_setA (im_setI Mc 23 2 (xa_2 (nI (w - 13)))) 24 (va_cpy (im_i Mc 9) (im_i Mc 24) 0 0 4)) := fr_A (by decide) (fr_F (by decide) fr_refl)
  have h2 : fr (2 ^ 81) [] Mr (im_setI M11 81 0 (xa_2 (nI (w - 13)))) := fr_I (by decide) f11
  have v24 : ∀ k, k < 4 → im_i (im_setA (im_setI Mc 23 2 (xa_2 (nI (w - 13)))) 24 (va_cpy (im_i Mc 9) (im_i Mc 24) 0 0 4)) 24 k = im_i Mc 9 k := fun k hk => by
    show (if 0 ≤ k ∧ k < 0 + 4 then im_i Mc 9 (0 + (k - 0)) else _) = _
    rw [if_pos (by omega), Nat.zero_add, Nat.sub_zero]
  have v81 : ∀ j, 5 ≤ j → im_i (im_setI M11 81 0 (xa_2 (nI (w - 13)))) 81 j = im_i Mr 81 j := fun j hj => by
    show (if j = 0 then _ else im_i M11 81 j) = _
    rw [if_neg (by omega), v11, if_neg (by omega)]
  refine PO_mk (T := T) ?_ ?_ h1 h2 (ST_fld h1 h2 q (fun wk n e => ⟨some w, n, ⟨e.1.1, e.1.2.1, ?_, fun i hi => ?_⟩, ?_, ⟨w1, w2, rfl, rfl, fun k hk => ⟨?_, ?_⟩⟩, e.2.2.2⟩)) (fun z => by cases z) hc hm h9
  · unfold f_HSetter_perform f_HSetter_performOfField f_HField_become
    rw [gd_pos (by decide), if_neg (show ¬ nI w = 0 from nz 0 (by omega) (by omega)), if_neg (show ¬ nI w = 1 from nz 1 (by omega) (by omega)), if_neg (show ¬ nI w = 2 from nz 2 (by omega) (by omega)), if_neg (show ¬ nI w = 3 from nz 3 (by omega) (by omega)), if_neg (show ¬ nI w = 4 from nz 4 (by omega) (by omega)), if_neg (show ¬ nI w = 5 from nz 5 (by omega) (by omega)), if_neg (show ¬ nI w = 6 from nz 6 (by omega) (by omega)), if_neg (show ¬ nI w = 7 from nz 7 (by omega) (by omega)), if_neg (show ¬ nI w = 8 from nz 8 (by omega) (by omega)), if_neg (show ¬ nI w = 9 from nz 9 (by omega) (by omega)), if_neg (show ¬ nI w = 10 from nz 10 (by omega) (by omega)), if_neg (show ¬ nI w = 11 from nz 11 (by omega) (by omega)), if_neg (show ¬ nI w = 12 from nz 12 (by omega) (by omega)), if_neg (show ¬ nI w = 22 from nz 22 (by omega) (by omega)), e13, gd_pos (by rw [inb_nI (by omega)]; omega), gd_pos cpy44]
    rfl
  · unfold f_MScriptRows_obey f_MScriptRows_set
    rw [if_neg t1, if_neg t2, if_neg t3, if_neg t4, if_neg t5, if_neg t6, if_pos t7, if_pos t8, if_pos t9, if_pos t10, if_pos t11, e11, bd1_s, if_pos t12, ko, bd1_s, bd1_s, gd_pos (by decide)]
    rfl
  · rw [v81 10 (by omega)]
    exact e.1.2.2.1
  · have f83 : im_i (im_setI M11 81 0 (xa_2 (nI (w - 13)))) 83 = im_i Mr 83 := fr_c h2 83 (by decide) (by decide)
    rw [f83]
    exact e.1.2.2.2 i hi
  · have g := e.2.1
    unfold FG at g ⊢
    rw [v81 7 (by omega), v81 8 (by omega), v81 9 (by omega), v81 5 (by omega), v81 6 (by omega)]
    exact g
  · rw [v24 k (by omega)]
    show (if 1 + k = 0 then _ else im_i M11 81 (1 + k)) = _
    rw [if_neg (by omega), v11, if_pos (by omega), Nat.add_sub_cancel_left]
    exact hN k hk
  · rw [v24 k (by omega)]
    exact hR k hk
theorem s_stX {M : im_M} {v13 : Int32} : ed (lp (uc2 (f_MScriptRows_storeData_L54 88 v13)) (0, M)) (fun R => fr (2 ^ 83) [] M R ∧ ∀ i, i < 200 → im_i R 83 i = im_i M 79 i) := by
  refine lp_inv (fun m (s : Int32 × im_M) => ∃ i : Nat, i + m = 200 ∧ s.1 = nI i ∧ fr (2 ^ 83) [] M s.2 ∧ ∀ k, k < i → im_i s.2 83 k = im_i M 79 k) ?_ (k := 200) ⟨0, by omega, rfl, fr_refl, fun k hk => absurd hk (by omega)⟩
  rintro m ⟨x3, M4⟩ ⟨i, hi, e1, f, h⟩
  replace e1 : x3 = nI i := e1
  replace f : fr (2 ^ 83) [] M M4 := f
  replace h : ∀ k, k < i → im_i M4 83 k = im_i M 79 k := h
  subst e1
  show ed (f_MScriptRows_storeData_L54 88 v13 (nI i) M4) _
  unfold f_MScriptRows_storeData_L54
  have t : ((200 : Int32) ≤ nI i) = (200 ≤ i) := nIl (x := 200) (by omega) (by omega)
  simp only [t]
  by_cases c : 200 ≤ i
  · rw [if_pos c]
    obtain rfl : i = 200 := by omega
    exact lpo_r ⟨f, h⟩
  · rw [if_neg c, if_pos (by decide), if_neg (fun z => z trivial), gd_pos (by rw [inb_nI (by omega)]; omega), nI_clamp (by omega), fr_c f 79 (by decide) (by decide), bd1_s, gd_pos (by rw [inb_nI (by omega)]; omega), bd1_s]
    refine lpo_l (m - 1) (by omega) ⟨i + 1, by omega, nI_add i 1, fr_I (by decide) f, fun k hk => ?_⟩
    show (if k = i then im_i M 79 i else im_i M4 83 k) = _
    by_cases e : k = i
    · rw [if_pos e, e]
    · rw [if_neg e]
      exact h k (by omega)
theorem s_stV {M : im_M} {j : Nat} (hj : j < 10) : ed (lp (uc2 (f_MScriptRows_storeData_L54 86 (nI j))) (0, M)) (fun R => fr (2 ^ 83) [] M R ∧ ∀ i, i < 200 → im_i R 83 i = im_i M 75 (200 * j + i)) := by
  refine lp_inv (fun m (s : Int32 × im_M) => ∃ i : Nat, i + m = 200 ∧ s.1 = nI i ∧ fr (2 ^ 83) [] M s.2 ∧ ∀ k, k < i → im_i s.2 83 k = im_i M 75 (200 * j + k)) ?_ (k := 200) ⟨0, by omega, rfl, fr_refl, fun k hk => absurd hk (by omega)⟩
  rintro m ⟨x3, M4⟩ ⟨i, hi, e1, f, h⟩
  replace e1 : x3 = nI i := e1
  replace f : fr (2 ^ 83) [] M M4 := f
  replace h : ∀ k, k < i → im_i M4 83 k = im_i M 75 (200 * j + k) := h
  subst e1
  show ed (f_MScriptRows_storeData_L54 86 (nI j) (nI i) M4) _
  unfold f_MScriptRows_storeData_L54
  have t : ((200 : Int32) ≤ nI i) = (200 ≤ i) := nIl (x := 200) (by omega) (by omega)
  simp only [t]
  by_cases c : 200 ≤ i
  · rw [if_pos c]
    obtain rfl : i = 200 := by omega
    exact lpo_r ⟨f, h⟩
  · have ex : (200 : Int32) * nI j + nI i = nI (200 * j + i) := by rw [nI_m, nI_add]
    rw [if_neg c, if_pos (by decide), if_pos (by decide), ex, gd_pos (by rw [inb_nI (by omega)]; omega), nI_clamp (by omega), fr_c f 75 (by decide) (by decide), bd1_s, gd_pos (by rw [inb_nI (by omega)]; omega), nI_clamp (by omega), bd1_s]
    refine lpo_l (m - 1) (by omega) ⟨i + 1, by omega, nI_add i 1, fr_I (by decide) f, fun k hk => ?_⟩
    show (if k = i then im_i M 75 (200 * j + i) else im_i M4 83 k) = _
    by_cases e : k = i
    · rw [if_pos e, e]
    · rw [if_neg e]
      exact h k (by omega)
theorem s_stK {M : im_M} {j : Nat} (hj : j < 10) : ed (lp (uc2 (f_MScriptRows_storeData_L54 75 (nI j))) (0, M)) (fun R => fr (2 ^ 75) [] M R ∧ ∀ p, im_i R 75 p = if 200 * j ≤ p ∧ p < 200 * j + 200 then im_i M 79 (p - 200 * j) else im_i M 75 p) := by
  refine lp_inv (fun m (s : Int32 × im_M) => ∃ i : Nat, i + m = 200 ∧ s.1 = nI i ∧ fr (2 ^ 75) [] M s.2 ∧ ∀ p, im_i s.2 75 p = if 200 * j ≤ p ∧ p < 200 * j + i then im_i M 79 (p - 200 * j) else im_i M 75 p) ?_ (k := 200) ⟨0, by omega, rfl, fr_refl, fun p => by rw [if_neg (by omega)]⟩
  rintro m ⟨x3, M4⟩ ⟨i, hi, e1, f, h⟩
  replace e1 : x3 = nI i := e1
  replace f : fr (2 ^ 75) [] M M4 := f
  replace h : ∀ p, im_i M4 75 p = if 200 * j ≤ p ∧ p < 200 * j + i then im_i M 79 (p - 200 * j) else im_i M 75 p := h
  subst e1
  show ed (f_MScriptRows_storeData_L54 75 (nI j) (nI i) M4) _
  unfold f_MScriptRows_storeData_L54
  have t : ((200 : Int32) ≤ nI i) = (200 ≤ i) := nIl (x := 200) (by omega) (by omega)
  simp only [t]
  by_cases c : 200 ≤ i
  · rw [if_pos c]
    obtain rfl : i = 200 := by omega
    exact lpo_r ⟨f, h⟩
  · have ex : (200 : Int32) * nI j + nI i = nI (200 * j + i) := by rw [nI_m, nI_add]
    rw [if_neg c, if_neg (fun z => z trivial), ex, gd_pos (by rw [inb_nI (by omega)]; omega), gd_pos (by rw [inb_nI (by omega)]; omega), nI_clamp (by omega), nI_clamp (by omega), fr_c f 79 (by decide) (by decide), bd1_s]
    refine lpo_l (m - 1) (by omega) ⟨i + 1, by omega, nI_add i 1, fr_I (by decide) f, fun p => ?_⟩
    show (if p = 200 * j + i then im_i M 79 i else im_i M4 75 p) = _
    by_cases e : p = 200 * j + i
    · rw [if_pos e, if_pos (by omega), e, Nat.add_sub_cancel_left]
    · rw [if_neg e, h]
      by_cases g : 200 * j ≤ p ∧ p < 200 * j + i
      · rw [if_pos g, if_pos (by omega)]
      · rw [if_neg g, if_neg (by omega)]
