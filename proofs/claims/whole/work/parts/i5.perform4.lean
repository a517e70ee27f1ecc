/-! A FIELD ENDED; FORMS KEPT AND READ -/
theorem drL_slot : ∀ {Fs : List FDt} {s k : Nat} {z : FDt × OD × Nat}, (drL s Fs)[k]? = some z → z.2.2 ≤ s + k := by
  intro Fs
  induction Fs with
  | nil => intro s k z h; cases h
  | cons F T ih =>
    intro s k z h
    have h : ((fO F).map (fun o => (F, o, s)) ++ drL (s + (fO F).length) T)[k]? = some z := h
    by_cases c : k < ((fO F).map (fun o => (F, o, s))).length
    · rw [List.getElem?_append_left c, List.getElem?_map] at h
      cases e : (fO F)[k]? with
      | none => rw [e] at h; cases h
      | some o =>
        rw [e] at h
        have h : some (F, o, s) = some z := h
        cases h
        show s ≤ s + k
        omega
    · rw [List.getElem?_append_right (by omega)] at h
      rw [List.length_map] at c h
      have := ih h
      omega
theorem po_F {Mc0 Mr0 Mc Mr M12 : im_M} {Fs : List FDt} {F : FDt} {d : Nat} {T : List Int32} {y v9 : Int32} (q : ST Mc0 Mr0 true) (hd : STd Mc0 Mr0 Fs) (eM : Mc = im_setI (im_setI M12 15 16 y) 15 9 v9) (fc : fr (2 ^ 21 ||| 2 ^ 22 ||| 2 ^ 26 ||| 2 ^ 27) [(23, 9)] Mc0 M12) (fm : fr (2 ^ 81 ||| 2 ^ 82 ||| 2 ^ 84 ||| 2 ^ 85) [(71, 13), (71, 26), (71, 32), (71, 33), (71, 34)] Mr0 Mr) (hF : FV F) (hy : y = nI (fO F).length) (hm1 : 1 ≤ (fO F).length) (h34 : im_i Mr 71 34 = nI (fO F).length) (h26 : im_i Mr 71 26 = nI (drL 0 Fs).length) (hlen : (drL 0 Fs).length + (fO F).length ≤ 120) (hD : DRf Mc0 M12 F.1 (drL 0 Fs).length F.2.2.2.1 (fO F)) (hB : ∀ i, i < F.2.2.2.1 → im_i Mc0 25 i &&& 255 = nI (F.2.1 i) ∧ isB (im_i Mc0 25 i)) (h82 : ∀ p, im_i Mr 82 p = if 16 * Fs.length ≤ p ∧ p < 16 * Fs.length + 16 then F.1 (p - 16 * Fs.length) else im_i Mr0 82 p) (h84 : ∀ i, i < F.2.2.2.1 → im_i Mr 84 (200 * Fs.length + i) = nI (F.2.1 i)) (h84b : ∀ p, p < 200 * Fs.length → im_i Mr 84 p = im_i Mr0 84 p) (hc : CS Mc d T) (hm : MS Mr T) (h9 : im_i Mr 71 9 = nI d) : PO Mc Mr 22 d true := by
  have fM : fr (2 ^ 21 ||| 2 ^ 22 ||| 2 ^ 26 ||| 2 ^ 27) [(23, 9), (15, 16), (15, 9)] Mc0 Mc := by
    rw [eM]
    exact fr_F (by decide) (fr_F (by decide) (fr_mono (by decide) (by decide) fc))
  have a16 : im_i Mc 15 16 = nI (fO F).length := by rw [eM, ← hy]; rfl
  have a19 : im_i Mc 19 3 = nI (drL 0 Fs).length := (fM.1 19 3 (by decide) (by decide)).trans hd.1.1
  have a21 : im_i Mc 21 = im_i M12 21 := by rw [eM]; rfl
  have a22 : im_i Mc 22 = im_i M12 22 := by rw [eM]; rfl
  have e19 : im_i Mc 19 3 + im_i Mc 15 16 = nI ((drL 0 Fs).length + (fO F).length) := by rw [a19, a16, nI_add]
  generalize hR1 : (im_setI (im_setI (im_setI (im_setI (im_setI (im_setI (im_setI (im_setI Mc 19 3 (nI ((drL 0 Fs).length + (fO F).length))) 23 0 0) 23 1 0) 23 2 (-1)) 23 4 0) 23 5 0) 23 6 0) 23 8 0) = R1
  have h1' : fr 0 [(19, 3), (23, 0), (23, 1), (23, 2), (23, 4), (23, 5), (23, 6), (23, 8)] Mc R1 := by
    rw [← hR1]
    exact fr_F (by decide) (fr_F (by decide) (fr_F (by decide) (fr_F (by decide) (fr_F (by decide) (fr_F (by decide) (fr_F (by decide) (fr_F (by decide) fr_refl)))))))
  have a25 : im_i Mr 71 25 = nI Fs.length := (fm.1 71 25 (by decide) (by decide)).trans hd.2.1.1
  generalize hN0 : im_setI (im_setI Mr 71 25 (nI (Fs.length + 1))) 71 26 (nI ((drL 0 Fs).length + (fO F).length)) = N0
  have n0 : fr 0 [(71, 25), (71, 26)] Mr N0 := by
    rw [← hN0]
    exact fr_F (by decide) (fr_F (by decide) fr_refl)
  obtain ⟨R2, e2, f2, r0, rj⟩ := s_newField (M := N0)
  have h2' : fr (2 ^ 81) [(71, 25), (71, 26)] Mr R2 := fr_tr (fr_mono (by decide) (by decide) f2) (fr_mono (by decide) (by decide) n0)
  have h1 : fr (2 ^ 21 ||| 2 ^ 22 ||| 2 ^ 26 ||| 2 ^ 27) [(23, 9), (15, 16), (15, 9), (19, 3), (23, 0), (23, 1), (23, 2), (23, 4), (23, 5), (23, 6), (23, 8)] Mc0 R1 := fr_tr (fr_mono (by decide) (by decide) h1') (fr_mono (by decide) (by decide) fM)
  have h2 : fr (2 ^ 81 ||| 2 ^ 82 ||| 2 ^ 84 ||| 2 ^ 85) [(71, 13), (71, 25), (71, 26), (71, 32), (71, 33), (71, 34)] Mr0 R2 := fr_tr (fr_mono (by decide) (by decide) h2') (fr_mono (by decide) (by decide) fm)
  have b21 : im_i R1 21 = im_i M12 21 := (fr_c h1' 21 (by decide) (by decide)).trans a21
  have b22 : im_i R1 22 = im_i M12 22 := (fr_c h1' 22 (by decide) (by decide)).trans a22
  have b82 : im_i R2 82 = im_i Mr 82 := fr_c h2' 82 (by decide) (by decide)
  have b84 : im_i R2 84 = im_i Mr 84 := fr_c h2' 84 (by decide) (by decide)
  have ln : (drL 0 (Fs ++ [F])).length = (drL 0 Fs).length + (fO F).length := by rw [drL_app, List.length_append, List.length_map]
  have hDRA : DRA R1 (Fs ++ [F]) := by
    refine ⟨by rw [ln, ← hR1]; rfl, fun k z hz => ?_⟩
    rw [drL_app, Nat.zero_add] at hz
    rw [b21, b22]
    by_cases c : k < (drL 0 Fs).length
    · rw [List.getElem?_append_left c] at hz
      obtain ⟨z1, z2, z3, z4, z5⟩ := hd.1.2 k z hz
      have sl := drL_slot hz
      have zn := z1.1.2.2.2
      refine ⟨z1, z2, z3, fun u hu => ?_, fun i hi => ?_⟩
      · rw [hD.1 _ (by omega)]
        exact z4 u hu
      · show _ ∧ im_i M12 22 (200 * z.2.2 + i) &&& 255 = _ ∧ isB (im_i M12 22 (200 * z.2.2 + i))
        rw [hD.2.2.1 _ (by omega)]
        exact z5 i hi
    · rw [List.getElem?_append_right (by omega), List.getElem?_map] at hz
      cases e : (fO F)[k - (drL 0 Fs).length]? with
      | none => rw [e] at hz; cases hz
      | some o =>
        rw [e] at hz
        have hz : some (F, o, (drL 0 Fs).length) = some z := hz
        cases hz
        refine ⟨hF, List.mem_of_getElem? e, by show (drL 0 Fs).length ≤ 120; omega, fun u hu => ?_, fun i hi => ?_⟩
        · have := hD.2.1 _ o e u hu
          rw [show (drL 0 Fs).length + (k - (drL 0 Fs).length) = k by omega] at this
          exact this
        · show F.2.1 i < 256 ∧ im_i M12 22 (200 * (drL 0 Fs).length + i) &&& 255 = _ ∧ isB (im_i M12 22 (200 * (drL 0 Fs).length + i))
          rw [hD.2.2.2 i hi]
          exact ⟨hF.2.2.1 i hi, hB i hi⟩
  have hTRA : TRA R2 (Fs ++ [F]) := by
    refine ⟨by rw [f2.1 71 25 (by decide) (by decide), ← hN0, List.length_append]; rfl, fun k z hz => ?_⟩
    rw [b82, b84]
    by_cases c : k < Fs.length
    · rw [List.getElem?_append_left c] at hz
      obtain ⟨z1, z2, z3⟩ := hd.2.1.2 k z hz
      have zn := z1.1.2.2.2
      refine ⟨z1, fun j hj => ?_, fun i hi => ?_⟩
      · rw [h82, if_neg (by omega)]
        exact z2 j hj
      · rw [h84b _ (by omega)]
        exact z3 i hi
    · rw [List.getElem?_append_right (by omega)] at hz
      by_cases e : k = Fs.length
      · subst e
        rw [Nat.sub_self] at hz
        have hz : some F = some z := hz
        cases hz
        refine ⟨hF, fun j hj => ?_, h84⟩
        rw [h82, if_pos (by omega), Nat.add_sub_cancel_left]
      · rw [List.getElem?_eq_none (by show 1 ≤ k - Fs.length; omega)] at hz
        cases hz
  refine PO_mk (T := T) ?_ ?_ h1' h2' (ST_lab h1 h2 q ?_) (fun z => by cases z) hc hm h9
  · unfold f_HSetter_perform f_HSetter_performOfField f_HField_clear
    rw [gd_pos (by decide), if_neg (by decide), if_neg (by decide), if_neg (by decide), if_neg (by decide), if_neg (by decide), if_neg (by decide), if_neg (by decide), if_neg (by decide), if_neg (by decide), if_neg (by decide), if_neg (by decide), if_neg (by decide), if_neg (by decide), if_pos (by decide), e19, ← hR1]
    rfl
  · rw [lc_t.2.2.2.2.2.2.2.2.2.2.2.2.2]
    unfold f_MScriptRows_obey
    have e25 : im_i Mr 71 25 + 1 = nI (Fs.length + 1) := by rw [a25]; exact nI_add _ 1
    have e26 : im_i Mr 71 26 + im_i Mr 71 34 = nI ((drL 0 Fs).length + (fO F).length) := by rw [h26, h34, nI_add]
    rw [if_pos (by decide), e25]
    show bd1 (f_MScriptRows_newField (im_setI (im_setI Mr 71 25 (nI (Fs.length + 1))) 71 26 (im_i Mr 71 26 + im_i Mr 71 34))) (fun (M1 : im_M) => some M1) = _
    rw [e26, hN0, e2]
    rfl
  · obtain ⟨_, W, H, C, n, wk, _, b, c, _⟩ := q.2.2.2.2.2 rfl
    refine ⟨Fs ++ [F], W, H, C, 0, none, ⟨hDRA, hTRA, ?_, by rw [ln]; exact hlen, by rw [ln, List.length_append]; show Fs.length + 1 ≤ _; have := hd.2.2.2.2; omega⟩, STs_fr h1 h2 (by decide +kernel) (by decide +kernel) b, STt_fr h1 h2 (by decide +kernel) (by decide +kernel) c, STf_new (by rw [← hR1]; rfl) (by rw [← hR1]; rfl) (by rw [← hR1]; rfl) (by rw [← hR1]; rfl) (by rw [← hR1]; rfl) (by rw [← hR1]; rfl) (by rw [← hR1]; rfl) r0 rj⟩
    rw [ln, f2.1 71 26 (by decide) (by decide), ← hN0]
    rfl
theorem po_S {Mc Mr : im_M} {T : List Int32} {a j : Nat} (q : ST Mc Mr false) (hc : CS Mc 0 T) (hm : MS Mr T) (h9 : im_i Mr 71 9 = nI 0) (hN : im_i Mr 78 0 = im_i Mc 9 0) (hR : RG3 Mc 0 0) (ha : im_i Mc 8 0 = nI a) (ha2 : a ≤ 4096) (hf : fdp (pZ T) (T.length - 1) = some j) (hj : j ≤ 400) (h15 : im_i Mc 15 15 = nI (a + j)) : PO Mc Mr 0 0 false := by
  obtain ⟨k, ek, _, k7⟩ := RG_n hR V_t.2.2.1.1 V_t.2.2.1.2 (by omega) (by omega)
  have er : im_i Mr 78 0 = nI k := by rw [hN, ek]
  have jl := (fdp_some _ _ hf).1
  obtain ⟨R1, e1, c1, h1, v4, v3⟩ := s_keepForm (k := k) (j := j) hc ha (by omega) (by omega) hj ha2
  obtain ⟨R2, e2, c2, h2, v74, v73⟩ := s_storeForm (k := k) hm er (by omega) hf hj
  obtain ⟨a1, a2, a3, a4, ⟨LL, A, a5⟩, a6⟩ := q
  have hlv := hc.2.2
  obtain ⟨a', m, x1, x2, x3, x4⟩ := hlv
  have ea : a' = a := by
    rw [x1] at ha
    exact (nI_eq (by omega) (by omega)).mp ha
  subst ea
  have tl : T.length = m := by rw [x4, bl_len]
  have ST1 : ST R1 R2 false := by
    refine ⟨(h1.1 15 8 (by decide) (by decide)).trans a1, (h2.1 71 18 (by decide) (by decide)).trans a2, ⟨fun i hi => ?_, ?_⟩, TB_fr h1 (by decide +kernel) a4, ⟨LL, A, STg_fr h1 h2 (by decide +kernel) (by decide +kernel) a5⟩, fun z => by cases z⟩
    · by_cases e : i = k
      · subst e
        refine ⟨j, hj, by rw [v4, if_pos rfl], by rw [v74, if_pos rfl], fun t ht => ?_⟩
        have g := (v73 (400 * i + t)).1 (by omega)
        rw [Nat.add_sub_cancel_left, x4, bl_at (by omega)] at g
        rw [v3, if_pos (by omega), Nat.add_sub_cancel_left]
        refine ⟨(Option.some.inj g).symm, ?_⟩
        obtain ⟨n, n1, n2, n3⟩ := a4
        have : n = a' + m := by
          rw [x2] at n1
          exact ((nI_eq (by omega) (by omega)).mp n1).symm
        exact n3 (a' + t) (by omega)
      · obtain ⟨n, hn, s1, s2, s3⟩ := a3.1 i hi
        refine ⟨n, hn, by rw [v4, if_neg e]; exact s1, by rw [v74, if_neg e]; exact s2, fun t ht => ?_⟩
        rw [v3, if_neg (by omega), (v73 (400 * i + t)).2 (by omega)]
        exact s3 t ht
    · have := a3.2
      rw [← fr_c h1 5 (by decide) (by decide), ← fr_c h1 6 (by decide) (by decide), ← fr_c h2 75 (by decide) (by decide), ← fr_c h2 76 (by decide) (by decide)] at this
      exact this
  refine ⟨R1, ?_, R2, ?_, ST1, 0, T.drop (j + 2), by omega, fun _ => rfl, c1, c2, (h2.1 71 9 (by decide) (by decide)).trans h9, ?_⟩
  · unfold f_HSetter_perform
    rw [gd_pos (by decide), if_pos (by decide), show im_i Mc 9 (Int32.toNatClampNeg 0) = nI k from ek, h15, e1]
    rfl
  · rw [lc_t.1]
    unfold f_MScriptRows_obey
    rw [if_neg (by decide), if_neg (by decide), if_neg (by decide), if_neg (by decide), if_pos (by decide), e2]
    rfl
  · rw [if_neg (by omega)]
    exact h2.1 71 10 (by decide) (by decide)
theorem po_U {Mc Mr : im_M} {d k : Nat} {T : List Int32} (q : ST Mc Mr true) (hc : CS Mc d T) (hm : MS Mr T) (h9 : im_i Mr 71 9 = nI d) (hN : im_i Mr 78 0 = im_i Mc 9 0) (ek : im_i Mc 9 0 = nI k) (hk : k < 8) (hd : d < 4) : PO Mc Mr 7 d true := by
  have er : im_i Mr 78 0 = nI k := by rw [hN, ek]
  obtain ⟨n, hn, s1, s2, s3⟩ := q.2.2.1.1 k hk
  have tl := (LV_cn hc.2.2).2
  obtain ⟨R1, e1, c1, h1⟩ := s_enterForm (k := k) (n := n) hc hd hk s1 hn
  obtain ⟨R2, e2, c2, c9, c10, h2⟩ := s_layForm (k := k) (n := n) (e := d) hm er hk s2 hn (by omega) h9 (by omega)
  rw [bl_form (M := Mc) (fun i hi => (s3 i hi).1)] at c2
  refine ⟨R1, ?_, R2, ?_, ST_fr (fr_mono (by decide) (by decide) h1) (fr_mono (by decide) (by decide) h2) q, d + 1, _, by omega, (fun z => by cases z), c1, c2, c9, ?_⟩
  · unfold f_HSetter_perform
    rw [gd_pos (by decide), if_neg (by decide), if_neg (by decide), if_neg (by decide), if_neg (by decide), if_neg (by decide), if_neg (by decide), if_neg (by decide), if_pos (by decide), show im_i Mc 9 (Int32.toNatClampNeg 0) = nI k from ek, e1]
    rfl
  · rw [lc_t.2.2.2.2.2.2.2.1]
    unfold f_MScriptRows_obey
    rw [if_neg (by decide), if_neg (by decide), if_neg (by decide), if_neg (by decide), if_neg (by decide), if_pos (by decide), e2]
    rfl
  · rw [c10]
    by_cases z : d = 0
    · rw [if_pos z, if_pos (by omega)]
    · rw [if_neg z, if_neg (by omega)]
