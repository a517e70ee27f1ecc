/-! FORMS ENTERED, BOTH SIDES -/
theorem s_enterForm {M : im_M} {d k n : Nat} {S : List Int32} (q : CS M d S) (hd : d < 4) (hk : k < 8) (hn : im_i M 4 k = nI n) (hn4 : n ≤ 400) : ed (f_HTape_enterForm (nI k) M) (fun r => CS r (d + 1) (bl (fun p => im_i M 3 (400 * k + p) &&& 255) 0 n ++ (-1) :: S) ∧ fr (2 ^ 7 ||| 2 ^ 8) [(1, 6)] M r) := by
  obtain ⟨_, h6, hl⟩ := q
  have e1 : im_i M 1 6 + 1 = nI (d + 1) := by rw [h6]; exact nI_add d 1
  have e : f_HTape_enterForm (nI k) M = (gd (inb (im_i M 1 6 + 1) 5) <| gd (inb (im_i M 1 6 + 1) 5) <| some (im_setI (im_setI (im_setI M 1 6 (im_i M 1 6 + 1)) 7 (Int32.toNatClampNeg (im_i M 1 6 + 1)) (nI k)) 8 (Int32.toNatClampNeg (im_i M 1 6 + 1)) 0)) := rfl
  rw [e, e1, gd_pos (by rw [inb_nI (by omega)]; omega), gd_pos (by rw [inb_nI (by omega)]; omega), nI_clamp (by omega)]
  refine ed_mk ⟨⟨by omega, rfl, k, 0, n, S, hk, ?_, ?_, ?_, by omega, rfl, LV_c (M := M) (M' := im_setI (im_setI (im_setI M 1 6 (nI (d + 1))) 7 (d + 1) (nI k)) 8 (d + 1) 0) rfl rfl rfl rfl d S (fun j hj => ⟨?_, ?_⟩) hl⟩, fr_I (by decide) (fr_I (by decide) (fr_F (by decide) fr_refl))⟩
  · show (if d + 1 = d + 1 then nI k else _) = _
    rw [if_pos rfl]
  · show (if d + 1 = d + 1 then (0 : Int32) else _) = _
    rw [if_pos rfl]
    rfl
  · show im_i M 4 k = _
    rw [hn, Nat.zero_add]
  · show (if j = d + 1 then (0 : Int32) else im_i M 8 j) = _
    rw [if_neg (by omega)]
  · show (if j = d + 1 then nI k else im_i M 7 j) = _
    rw [if_neg (by omega)]
theorem MS_push {M : im_M} {S : List Int32} {x : Int32} (q : MS M S) (h : S.length < 5800) : MS (im_setI (im_setI M 77 S.length x) 71 8 (nI (S.length + 1))) (x :: S) := by
  refine ⟨rfl, by show S.length + 1 ≤ 5800; omega, ?_, PD_c (M := M) (fun p hp => ?_) q.2.2⟩
  · show (if S.length = S.length then x else _) = x
    rw [if_pos rfl]
  · show (if p = S.length then x else im_i M 77 p) = _
    rw [if_neg (by omega)]
theorem s_layForm {M : im_M} {k n e : Nat} {S : List Int32} (q : MS M S) (h0 : im_i M 78 0 = nI k) (hk : k < 8) (hn : im_i M 74 k = nI n) (hn4 : n ≤ 400) (hl : S.length + 401 ≤ 5800) (h9 : im_i M 71 9 = nI e) (he : e < 100) : ed (f_MScriptRows_layForm M) (fun r => MS r (bl (fun p => im_i M 73 (400 * k + p)) 0 n ++ (-1) :: S) ∧ im_i r 71 9 = nI (e + 1) ∧ im_i r 71 10 = (if e = 0 then im_i M 71 12 else im_i M 71 10) ∧ fr (2 ^ 77) [(71, 8), (71, 9), (71, 10)] M r) := by
  have ee : f_MScriptRows_layForm M = (gd (inb 0 4) <| gd (inb (im_i M 71 8) 5800) <| gd (inb (im_i M 78 0) 8) <| bd1 (lp (uc2 (f_MScriptRows_layForm_L68 (im_i M 78 0))) (im_i M 74 (Int32.toNatClampNeg (im_i M 78 0)) - 1, im_setI (im_setI (im_setI (im_setI M 71 10 ((if ¬ (im_i M 71 9) = 0 then (im_i M 71 10) else (im_i M 71 12)) : Int32)) 71 9 (im_i M 71 9 + 1)) 77 (Int32.toNatClampNeg (im_i M 71 8)) (-1)) 71 8 (im_i M 71 8 + 1))) fun (M6 : im_M) => some M6) := rfl
  have c0 : (nI e = 0) = (e = 0) := nIe (c := 0) (by omega) (by omega)
  rw [ee, q.1, h0, gd_pos (by decide), gd_pos (by rw [inb_nI (by omega)]; omega), gd_pos (by rw [inb_nI (by omega)]; omega), nI_clamp (by omega), nI_clamp (by omega), hn, h9]
  simp only [c0]
  have f0 : fr 0 [(71, 9), (71, 10)] M (im_setI (im_setI M 71 10 (if ¬ e = 0 then im_i M 71 10 else im_i M 71 12)) 71 9 (nI e + 1)) := fr_F (by decide) (fr_F (by decide) fr_refl)
  have q0 := MS_push (x := -1) (MS_fr f0 (by decide +kernel) q) (by omega)
  rw [show nI S.length + 1 = nI (S.length + 1) from nI_add _ 1]
  apply bd1_mk
  refine ed_mono (lp_inv (fun t (s : Int32 × im_M) => ∃ i : Nat, i = t ∧ i ≤ n ∧ s.1 = nI i - 1 ∧ MS s.2 (bl (fun p => im_i M 73 (400 * k + p)) i (n - i) ++ (-1) :: S) ∧ im_i s.2 71 9 = nI (e + 1) ∧ im_i s.2 71 10 = (if e = 0 then im_i M 71 12 else im_i M 71 10) ∧ fr (2 ^ 77) [(71, 8), (71, 9), (71, 10)] M s.2) (Q := fun r => MS r (bl (fun p => im_i M 73 (400 * k + p)) 0 n ++ (-1) :: S) ∧ im_i r 71 9 = nI (e + 1) ∧ im_i r 71 10 = (if e = 0 then im_i M 71 12 else im_i M 71 10) ∧ fr (2 ^ 77) [(71, 8), (71, 9), (71, 10)] M r) ?_ (k := n) ⟨n, rfl, by omega, rfl, by rw [Nat.sub_self]; exact q0, nI_add e 1, ?_, fr_F (by decide) (fr_I (by decide) (fr_mono (by decide) (by decide) f0))⟩) (fun r h => ed_mk h)
  · rintro t ⟨x4, M5⟩ ⟨i, rfl, hi, e1, q5, g9, g10, f5⟩
    replace e1 : x4 = nI i - 1 := e1
    replace q5 : MS M5 (bl (fun p => im_i M 73 (400 * k + p)) i (n - i) ++ (-1) :: S) := q5
    replace g9 : im_i M5 71 9 = nI (e + 1) := g9
    replace g10 : im_i M5 71 10 = (if e = 0 then im_i M 71 12 else im_i M 71 10) := g10
    replace f5 : fr (2 ^ 77) [(71, 8), (71, 9), (71, 10)] M M5 := f5
    subst e1
    show ed (f_MScriptRows_layForm_L68 (nI k) (nI i - 1) M5) _
    unfold f_MScriptRows_layForm_L68
    have len : (bl (fun p => im_i M 73 (400 * k + p)) i (n - i) ++ (-1) :: S).length = n - i + (S.length + 1) := by rw [List.length_append, bl_len]; rfl
    cases i with
    | zero =>
      rw [if_pos (by decide)]
      exact lpo_r ⟨q5, g9, g10, f5⟩
    | succ i =>
      have em : nI (i + 1) - 1 = nI i := nI_m1 (by omega)
      have ng : ¬ nI i < 0 := m1_lt (by omega)
      have ei : (400 : Int32) * nI k + nI i = nI (400 * k + i) := by rw [nI_m, nI_add]
      have e73 : im_i M5 73 (400 * k + i) = im_i M 73 (400 * k + i) := f5.1 73 _ (by decide) (by simp)
      have h8 := q5.1
      rw [len] at h8
      rw [em, if_neg ng, ei, h8, gd_pos (by rw [inb_nI (by omega)]; omega), gd_pos (by rw [inb_nI (by omega)]; omega), nI_clamp (by omega), nI_clamp (by omega), e73]
      have qp := MS_push (x := im_i M 73 (400 * k + i)) q5 (by rw [len]; omega)
      rw [len] at qp
      have ex : im_i (im_setI M5 77 (n - (i + 1) + (S.length + 1)) (im_i M 73 (400 * k + i))) 71 8 + 1 = nI (n - (i + 1) + (S.length + 1) + 1) := by
        show im_i M5 71 8 + 1 = _
        rw [h8]
        exact nI_add _ 1
      rw [ex]
      have en : n - i = (n - (i + 1)) + 1 := by omega
      have e7 : nI i + (-1) = nI i - 1 := by
        have : (-1 : Int32) = iZ (-1) := rfl
        rw [iZ_nI, this, iZ_n, iZ_add, iZ_sub]
        rfl
      rw [e7]
      refine lpo_l i (by omega) ⟨i, rfl, by omega, rfl, ?_, g9, g10, fr_F (by decide) (fr_I (by decide) f5)⟩
      rw [en]
      exact qp
  · show (if ¬ e = 0 then im_i M 71 10 else im_i M 71 12) = _
    by_cases c : e = 0
    · rw [if_neg (fun z => z c), if_pos c]
    · rw [if_pos c, if_neg c]
theorem bl_form {M N : im_M} {k n : Nat} (h : ∀ i, i < n → im_i N 73 (400 * k + i) = im_i M 3 (400 * k + i) &&& 255) : bl (fun p => im_i N 73 (400 * k + p)) 0 n = bl (fun p => im_i M 3 (400 * k + p) &&& 255) 0 n := bl_c (fun p _ hp => h p (by omega))
