/-! THE CLASS FINDS THE LOCATOR -/
theorem cpy_at {f g : Nat → Int32} {j : Nat} (hj : j < 31) : va_cpy f g (Int32.toNatClampNeg 0) (Int32.toNatClampNeg 0) (Int32.toNatClampNeg 31) j = f j := by
  show (if 0 ≤ j ∧ j < 0 + 31 then f (0 + (j - 0)) else g j) = f j
  rw [if_pos ⟨by omega, by omega⟩, Nat.zero_add, Nat.sub_zero]
theorem s_gap {M : im_M} {c L k : Nat} {sy La : Nat → Fin 256} {x5 x6 : Int32} (qp : PWL M) (hc : c ≤ 30) (hk : k < c) (hL : L ≤ k) (hS : AF (im_i M 49) sy c) (hA : AF (im_i M 50) La 31) : lp (uc2 (f_HBlocks_findLocator_L60 (nI L) x5 x6 (nI k) M)) (im_i M 49 k, 1) = some (nI (bmG sy La L k).val) := by
  rw [hS k hk]
  refine lp_row (fun i => (nI (itN (fun i a => ga a (gx (La (i + 1)) (sy (k - (i + 1))))) (sy k) i).val, nI (i + 1))) (min L k) (fun i hi => ?_) ?_
  · show f_HBlocks_findLocator_L60 (nI L) x5 x6 (nI k) M (nI (itN (fun i a => ga a (gx (La (i + 1)) (sy (k - (i + 1))))) (sy k) i).val) (nI (i + 1)) = some (Sum.inl (nI (ga (itN (fun i a => ga a (gx (La (i + 1)) (sy (k - (i + 1))))) (sy k) i) (gx (La (i + 1)) (sy (k - (i + 1))))).val, nI (i + 1 + 1)))
    unfold f_HBlocks_findLocator_L60
    rw [if_nIlt (by omega) (by omega), if_neg (by omega), if_nIlt (by omega) (by omega), if_neg (by omega), gd_pos (by rw [inb_nI (by omega)]; omega), nI_sb (by omega), gd_pos (by rw [inb_nI (by omega)]; omega), nI_clamp (by omega), nI_clamp (by omega), hA _ (by omega), hS _ (by omega), tC qp, bd1_s, nX]
    exact congrArg (fun z => some (Sum.inl (_, z))) (nI_add (i + 1) 1)
  · show f_HBlocks_findLocator_L60 (nI L) x5 x6 (nI k) M _ (nI (min L k + 1)) = _
    unfold f_HBlocks_findLocator_L60
    rw [if_nIlt (by omega) (by omega)]
    by_cases d : L < min L k + 1
    · rw [if_pos d]
      rfl
    · rw [if_neg d, if_nIlt (by omega) (by omega), if_pos (by omega)]
      rfl
theorem s_upL {M : im_M} {lag : Nat} {La B : Nat → Fin 256} {f : Fin 256} {x22 x24 x25 x26 : Int32} (qp : PWL M) (h1 : 1 ≤ lag) (h2 : lag ≤ 30) (hA : AF (im_i M 50) La 31) (hB : AF (im_i M 51) B 31) : ed (lp (uc2 (f_HBlocks_findLocator_L137 x22 (nI lag) x24 x25 x26 (nI f.val))) (nI lag, M)) (fun R => AF (im_i R 50) (bmL La B lag f) 31 ∧ fr (2 ^ 50) [] M R) := by
  refine lp_for (S := Unit) (fun i _ (t : Int32 × im_M) => t.1 = nI (lag + i) ∧ (∀ q, q < 31 → im_i t.2 50 q = nI (if q < lag + i then bmL La B lag f q else La q).val) ∧ fr (2 ^ 50) [] M t.2) (Q := fun _ R => AF (im_i R 50) (bmL La B lag f) 31 ∧ fr (2 ^ 50) [] M R) (31 - lag) (fun _ s => s) ?_ ?_ (s := ()) ⟨rfl, fun q hq => ?_, fr_refl⟩
  · rintro i s ⟨x, M1⟩ hi ⟨e, h, hf⟩
    replace e : x = nI (lag + i) := e
    replace h : ∀ q, q < 31 → im_i M1 50 q = nI (if q < lag + i then bmL La B lag f q else La q).val := h
    replace hf : fr (2 ^ 50) [] M M1 := hf
    subst e
    have b1 : im_i M1 51 = im_i M 51 := fr_ar hf (by decide)
    show ed (f_HBlocks_findLocator_L137 x22 (nI lag) x24 x25 x26 (nI f.val) (nI (lag + i)) M1) _
    unfold f_HBlocks_findLocator_L137
    rw [if_neg (show ¬ (30 : Int32) < nI (lag + i) by rw [show (30 : Int32) = nI 30 from rfl, nIlt (by omega) (by omega)]; omega), gd_pos (by rw [inb_nI (by omega)]; omega), nI_sb (by omega), gd_pos (by rw [inb_nI (by omega)]; omega), nI_clamp (by omega), nI_clamp (by omega), b1, hB _ (by omega), tC (PWL_f hf (by decide) qp), bd1_s, gd_pos (by rw [inb_nI (by omega)]; omega), h _ (by omega), if_neg (by omega), nX]
    refine ed_mk ⟨_, rfl, nI_add (lag + i) 1, fun q hq => ?_, fr_I (by decide) hf⟩
    show im_i (im_setI M1 50 (lag + i) _) 50 q = _
    by_cases c : q = lag + i
    · subst c
      rw [hit, if_pos (by omega)]
      unfold bmL
      rw [shN_at, if_pos (by omega)]
    · rw [sk1 (by omega), h q hq]
      by_cases d : q < lag + i
      · rw [if_pos d, if_pos (by omega)]
      · rw [if_neg d, if_neg (by omega)]
  · rintro s ⟨x, M1⟩ ⟨e, h, hf⟩
    replace e : x = nI (lag + (31 - lag)) := e
    replace h : ∀ q, q < 31 → im_i M1 50 q = nI (if q < lag + (31 - lag) then bmL La B lag f q else La q).val := h
    subst e
    show ed (f_HBlocks_findLocator_L137 x22 (nI lag) x24 x25 x26 (nI f.val) (nI (lag + (31 - lag))) M1) _
    unfold f_HBlocks_findLocator_L137
    rw [if_pos (show (30 : Int32) < nI (lag + (31 - lag)) by rw [show (30 : Int32) = nI 30 from rfl, nIlt (by omega) (by omega)]; omega)]
    exact ed_mk ⟨_, rfl, fun q hq => by rw [h q hq, if_pos (by omega)], hf⟩
  · show im_i M 50 q = _
    rw [hA q hq]
    by_cases d : q < lag + 0
    · rw [if_pos d]
      unfold bmL
      rw [shN_at, if_neg (by omega), gx_z, ga_z]
    · rw [if_neg d]
def BMr (sy : Nat → Fin 256) (M : im_M) (k : Nat) (s : BMs) (t : Int32 × Int32 × Int32 × Int32 × im_M) : Prop := t.1 = nI s.1 ∧ t.2.1 = nI s.2.1 ∧ t.2.2.1 = nI s.2.2.1.val ∧ t.2.2.2.1 = nI k ∧ AF (im_i t.2.2.2.2 50) s.2.2.2.1 31 ∧ AF (im_i t.2.2.2.2 51) s.2.2.2.2 31 ∧ fr 7881299347898368 [] M t.2.2.2.2 ∧ BI sy k s
theorem s_bmstep {M : im_M} {c k : Nat} {sy : Nat → Fin 256} {s : BMs} {t : Int32 × Int32 × Int32 × Int32 × im_M} (qp : PWL M) (hc : c ≤ 30) (h12 : im_i M 43 12 = nI c) (hS : AF (im_i M 49) sy c) (hk : k < c) (h : BMr sy M k s t) : ed (uc5 f_HBlocks_findLocator_L39 t) (fun r => ∃ t', r = Sum.inl t' ∧ BMr sy M (k + 1) (bmS sy k s) t') := by
  obtain ⟨L, lag, fg, La, B⟩ := s
  obtain ⟨x4, x5, x6, x7, M8⟩ := t
  obtain ⟨e1, e2, e3, e4, hA, hB, hf, hI⟩ := h
  replace e1 : x4 = nI L := e1
  replace e2 : x5 = nI lag := e2
  replace e3 : x6 = nI fg.val := e3
  replace e4 : x7 = nI k := e4
  replace hA : AF (im_i M8 50) La 31 := hA
  replace hB : AF (im_i M8 51) B 31 := hB
  replace hf : fr 7881299347898368 [] M M8 := hf
  have hI2 := BI_step hI
  obtain ⟨h0, hL, hLk, hr, hfg, hl1, hl2, -⟩ := hI
  dsimp only at h0 hL hLk hr hfg hl1 hl2
  have q8 : PWL M8 := PWL_f hf (by decide) qp
  have s8 : AF (im_i M8 49) sy c := by rw [fr_ar hf (by decide)]; exact hS
  show ed (f_HBlocks_findLocator_L39 x4 x5 x6 x7 M8) _
  unfold f_HBlocks_findLocator_L39
  rw [e1, e4]
  rw [show im_i M8 43 12 = nI c from (fr_at hf (by decide)).trans h12, if_nIl (by omega) (by omega), if_neg (by omega), gd_pos (by rw [inb_nI (by omega)]; omega), nI_clamp (by omega), s_gap q8 hc hk hLk s8 hA, bd1_s]
  have eS : bmS sy k (L, lag, fg, La, B) = if bmG sy La L k = 0 then (L, lag + 1, fg, La, B) else if 2 * L ≤ k then (k + 1 - L, 1, bmG sy La L k, bmL La B lag (gx (bmG sy La L k) (gi fg)), La) else (L, lag + 1, fg, bmL La B lag (gx (bmG sy La L k) (gi fg)), B) := rfl
  rw [eS] at hI2
  rw [eS]
  simp only [nZ]
  by_cases cg : bmG sy La L k = 0
  · rw [if_pos cg] at hI2
    rw [if_pos cg, if_pos cg]
    show ed (some (Sum.inl (nI L, x5 + 1, x6, nI k + 1, M8))) _
    refine ed_mk ⟨_, rfl, rfl, ?_, e3, nI_add k 1, hA, hB, hf, hI2⟩
    show x5 + 1 = nI (lag + 1)
    rw [e2]
    exact nI_add lag 1
  · rw [if_neg cg] at hI2
    rw [if_neg cg, if_neg cg]
    obtain ⟨N, hN⟩ : ∃ N, N = im_setA M8 52 (va_cpy (im_i M8 50) (im_i M8 52) (Int32.toNatClampNeg 0) (Int32.toNatClampNeg 0) (Int32.toNatClampNeg 31)) := ⟨_, rfl⟩
    have fN : fr (2 ^ 52) [] M8 N := by rw [hN]; exact fr_A (by decide) fr_refl
    have qN : PWL N := PWL_f fN (by decide) q8
    have AN : AF (im_i N 50) La 31 := by rw [fr_ar fN (by decide)]; exact hA
    have BN : AF (im_i N 51) B 31 := by rw [fr_ar fN (by decide)]; exact hB
    have SN : AF (im_i N 52) La 31 := by
      intro j hj
      rw [hN, mi_A, if_pos rfl, cpy_at hj]
      exact hA j hj
    rw [gd_pos (by decide), ← hN, e3, oC qN hfg, bd1_s, e2]
    have up := s_upL (x22 := nI L) (x24 := nI fg.val) (x25 := nI k) (x26 := nI (bmG sy La L k).val) (f := gx (bmG sy La L k) (gi fg)) qN hl1 (by omega) AN BN
    obtain ⟨R, hR, A1, fR⟩ := up
    rw [hR, bd1_s]
    have fMR : fr 7881299347898368 [] M R := fr_tr (fr_mono (by decide) (fun p hp => hp) fR) (fr_tr (fr_mono (by decide) (fun p hp => hp) fN) hf)
    rw [nI_m, if_nIlt (by show k < 2147483648; omega) (by show 2 * L < 2147483648; omega)]
    by_cases c2 : 2 * L ≤ k
    · rw [if_pos c2] at hI2
      rw [if_pos c2, if_neg (show ¬ k < OfNat.ofNat 2 * L from fun z => by have z : k < 2 * L := z; omega), gd_pos (by decide)]
      show ed (some (Sum.inl (nI k + 1 - nI L, (0 : Int32) + 1, nI (bmG sy La L k).val, nI k + 1, im_setA R 51 _))) _
      refine ed_mk ⟨_, rfl, ?_, rfl, rfl, nI_add k 1, ?_, ?_, fr_A (by decide) fMR, hI2⟩
      · show nI k + 1 - nI L = nI (k + 1 - L)
        rw [show nI k + 1 = nI (k + 1) from nI_add k 1, nI_sb (by omega)]
      · show AF (im_i (im_setA R 51 _) 50) _ 31
        rw [mi_A, if_neg (by decide)]
        exact A1
      · intro j hj
        show im_i (im_setA R 51 _) 51 j = _
        rw [mi_A, if_pos rfl, cpy_at hj, fr_ar fR (by decide)]
        exact SN j hj
    · rw [if_neg c2] at hI2
      rw [if_neg c2, if_pos (show k < OfNat.ofNat 2 * L by show k < 2 * L; omega)]
      show ed (some (Sum.inl (nI L, nI lag + 1, nI fg.val, nI k + 1, R))) _
      refine ed_mk ⟨_, rfl, rfl, nI_add lag 1, rfl, nI_add k 1, A1, ?_, fMR, hI2⟩
      show AF (im_i R 51) B 31
      rw [fr_ar fR (by decide)]
      exact BN
theorem s_findL {M : im_M} {c : Nat} {sy : Nat → Fin 256} (qp : PWL M) (hc : c ≤ 30) (h12 : im_i M 43 12 = nI c) (hS : AF (im_i M 49) sy c) : ed (f_HBlocks_findLocator M) (fun r => r.1 = nI (itN (bmS sy) bm0 c).1 ∧ AF (im_i r.2 50) (itN (bmS sy) bm0 c).2.2.2.1 31 ∧ fr 7881299347898368 [] M r.2) := by
  unfold f_HBlocks_findLocator
  have p1 : ed (f_Arrays_fill4_1 0 M) (fun R => (∀ j, j < 31 → im_i R 50 j = 0) ∧ fr (2 ^ 50) [] M R) := by
    unfold f_Arrays_fill4_1
    apply bd1_mk
    refine ed_mono (fill_g (a := 50) (n := 31) (v := 0) (by decide) (fun k N hk => ?_) (fun N => ?_)) (fun R hR => ed_mk hR)
    · show f_Arrays_fill4_1_L5 0 31 (nI k) N = _
      unfold f_Arrays_fill4_1_L5
      rw [if_neg (show ¬ (31 : Int32) ≤ nI k by rw [show (31 : Int32) = nI 31 from rfl, nIl (by omega) (by omega)]; omega), gd_pos (by rw [inb_nI (by omega)]; omega), nI_clamp (by omega)]
      exact congrArg (fun z => some (Sum.inl (z, _))) (nI_add k 1)
    · rfl
  obtain ⟨M1, hM1, z1, f1⟩ := p1
  rw [hM1, bd1_s]
  have p2 : ed (f_Arrays_fill4_2 0 M1) (fun R => (∀ j, j < 31 → im_i R 51 j = 0) ∧ fr (2 ^ 51) [] M1 R) := by
    unfold f_Arrays_fill4_2
    apply bd1_mk
    refine ed_mono (fill_g (a := 51) (n := 31) (v := 0) (by decide) (fun k N hk => ?_) (fun N => ?_)) (fun R hR => ed_mk hR)
    · show f_Arrays_fill4_2_L5 0 31 (nI k) N = _
      unfold f_Arrays_fill4_2_L5
      rw [if_neg (show ¬ (31 : Int32) ≤ nI k by rw [show (31 : Int32) = nI 31 from rfl, nIl (by omega) (by omega)]; omega), gd_pos (by rw [inb_nI (by omega)]; omega), nI_clamp (by omega)]
      exact congrArg (fun z => some (Sum.inl (z, _))) (nI_add k 1)
    · rfl
  obtain ⟨M2, hM2, z2, f2⟩ := p2
  rw [hM2, bd1_s, gd_pos (by decide), gd_pos (by decide)]
  obtain ⟨N, hN⟩ : ∃ N, N = im_setI (im_setI M2 50 (Int32.toNatClampNeg 0) 1) 51 (Int32.toNatClampNeg 0) 1 := ⟨_, rfl⟩
  rw [← hN]
  have fN : fr 7881299347898368 [] M N := by
    rw [hN]
    exact fr_I (by decide) (fr_I (by decide) (fr_tr (fr_mono (by decide) (fun p hp => hp) f2) (fr_mono (by decide) (fun p hp => hp) f1)))
  have aN : AF (im_i N 50) dl0 31 := by
    intro j hj
    rw [hN, sk1 (by omega), show Int32.toNatClampNeg 0 = 0 from rfl]
    by_cases e : j = 0
    · subst e; rw [hit]; rfl
    · rw [sk1 (by omega), fr_at f2 (by decide), z1 j hj]
      unfold dl0
      rw [if_neg e]
      rfl
  have bN : AF (im_i N 51) dl0 31 := by
    intro j hj
    rw [hN, show Int32.toNatClampNeg 0 = 0 from rfl]
    by_cases e : j = 0
    · subst e; rw [hit]; rfl
    · rw [sk1 (by omega), sk1 (by omega), z2 j hj]
      unfold dl0
      rw [if_neg e]
      rfl
  apply bd2_mk
  refine ed_mono (lp_for (S := BMs) (BMr sy M) (Q := fun s (r : Int32 × im_M) => r.1 = nI s.1 ∧ AF (im_i r.2 50) s.2.2.2.1 31 ∧ fr 7881299347898368 [] M r.2) c (bmS sy) (fun i s t hi h => s_bmstep qp hc h12 hS hi h) ?_ (s := bm0) (t := (0, 1, 1, 0, N)) ⟨rfl, rfl, rfl, rfl, aN, bN, fN, BI_0 sy⟩) ?_
  · rintro ⟨L, lag, fg, La, B⟩ ⟨x4, x5, x6, x7, M8⟩ ⟨e1, e2, e3, e4, hA, hB, hf, hI⟩
    replace e4 : x7 = nI c := e4
    replace hf : fr 7881299347898368 [] M M8 := hf
    show ed (f_HBlocks_findLocator_L39 x4 x5 x6 x7 M8) _
    unfold f_HBlocks_findLocator_L39
    rw [e4, show im_i M8 43 12 = nI c from (fr_at hf (by decide)).trans h12, if_nIl (by omega) (by omega), if_pos (by omega)]
    exact ed_mk ⟨_, rfl, e1, hA, hf⟩
  · rintro ⟨a, M9⟩ hh
    exact ed_mk hh
/-! the evaluator -/
def omV (sy La : Nat → Fin 256) (c k : Nat) : Fin 256 := if k < c then cv La sy k else 0
theorem s_evalC {M : im_M} {c : Nat} {sy La : Nat → Fin 256} (qp : PWL M) (hc : c ≤ 30) (h12 : im_i M 43 12 = nI c) (hS : AF (im_i M 49) sy c) (hA : AF (im_i M 50) La 31) : ed (f_HBlocks_makeEvaluator M) (fun R => AF (im_i R 53) (omV sy La c) 30 ∧ fr (2 ^ 53) [] M R) := by
  unfold f_HBlocks_makeEvaluator
  have p1 : ed (f_Arrays_fill4_3 0 M) (fun R => (∀ j, j < 30 → im_i R 53 j = 0) ∧ fr (2 ^ 53) [] M R) := by
    unfold f_Arrays_fill4_3
    apply bd1_mk
    refine ed_mono (fill_g (a := 53) (n := 30) (v := 0) (by decide) (fun k N hk => ?_) (fun N => ?_)) (fun R hR => ed_mk hR)
    · show f_Arrays_fill4_3_L5 0 30 (nI k) N = _
      unfold f_Arrays_fill4_3_L5
      rw [if_neg (show ¬ (30 : Int32) ≤ nI k by rw [show (30 : Int32) = nI 30 from rfl, nIl (by omega) (by omega)]; omega), gd_pos (by rw [inb_nI (by omega)]; omega), nI_clamp (by omega)]
      exact congrArg (fun z => some (Sum.inl (z, _))) (nI_add k 1)
    · rfl
  obtain ⟨M1, hM1, z1, f1⟩ := p1
  rw [hM1, bd1_s]
  apply bd1_mk
  refine ed_mono (lp_for (S := Unit) (fun i _ (t : Int32 × im_M) => t.1 = nI i ∧ (∀ q, q < 30 → im_i t.2 53 q = nI (if q < i then cv La sy q else 0).val) ∧ fr (2 ^ 53) [] M t.2) (Q := fun _ R => AF (im_i R 53) (omV sy La c) 30 ∧ fr (2 ^ 53) [] M R) c (fun _ s => s) ?_ ?_ (s := ()) (t := (0, M1)) ⟨rfl, fun q hq => by rw [show im_i ((0 : Int32), M1).2 53 q = 0 from z1 q hq, if_neg (by omega)]; rfl, f1⟩) (fun R hR => ed_mk hR)
  · rintro i s ⟨x3, M4⟩ hi ⟨e, h, hf⟩
    replace e : x3 = nI i := e
    replace h : ∀ q, q < 30 → im_i M4 53 q = nI (if q < i then cv La sy q else 0).val := h
    replace hf : fr (2 ^ 53) [] M M4 := hf
    subst e
    show ed (f_HBlocks_makeEvaluator_L10 (nI i) M4) _
    unfold f_HBlocks_makeEvaluator_L10
    rw [show im_i M4 43 12 = nI c from (fr_at hf (by decide)).trans h12, if_nIl (by omega) (by omega), if_neg (by omega)]
    apply bd1_mk
    refine ed_mono (lp_for (S := Unit) (fun j _ (t : Int32 × im_M) => t.1 = nI j ∧ (∀ q, q < 30 → im_i t.2 53 q = nI (if q = i then zS (fun j => gx (La j) (sy (i - j))) j else if q < i then cv La sy q else 0).val) ∧ fr (2 ^ 53) [] M t.2) (Q := fun _ R => (∀ q, q < 30 → im_i R 53 q = nI (if q < i + 1 then cv La sy q else 0).val) ∧ fr (2 ^ 53) [] M R) (i + 1) (fun _ s => s) ?_ ?_ (s := ()) (t := (0, M4)) ⟨rfl, fun q hq => ?_, hf⟩) ?_
    · rintro j s ⟨x7, M8⟩ hj ⟨e, h8, hf8⟩
      replace e : x7 = nI j := e
      replace h8 : ∀ q, q < 30 → im_i M8 53 q = nI (if q = i then zS (fun j => gx (La j) (sy (i - j))) j else if q < i then cv La sy q else 0).val := h8
      replace hf8 : fr (2 ^ 53) [] M M8 := hf8
      subst e
      show ed (f_HBlocks_makeEvaluator_L20 (nI i) (nI j) M8) _
      unfold f_HBlocks_makeEvaluator_L20
      rw [if_nIlt (by omega) (by omega), if_neg (by omega), gd_pos (by rw [inb_nI (by omega)]; omega), gd_pos (by rw [inb_nI (by omega)]; omega), nI_sb (by omega), gd_pos (by rw [inb_nI (by omega)]; omega), nI_clamp (by omega), nI_clamp (by omega), fr_ar hf8 (a := 50) (by decide), hA _ (by omega), fr_ar hf8 (a := 49) (by decide), hS _ (by omega), tC (PWL_f hf8 (by decide) qp), bd1_s, gd_pos (by rw [inb_nI (by omega)]; omega), nI_clamp (by omega), h8 i (by omega), if_pos rfl, nX]
      refine ed_mk ⟨_, rfl, nI_add j 1, fun q hq => ?_, fr_I (by decide) hf8⟩
      show im_i (im_setI M8 53 i _) 53 q = _
      by_cases d : q = i
      · subst d
        rw [hit, if_pos rfl]
        rfl
      · rw [sk1 (by omega), h8 q hq, if_neg d, if_neg d]
    · rintro s ⟨x7, M8⟩ ⟨e, h8, hf8⟩
      replace e : x7 = nI (i + 1) := e
      replace h8 : ∀ q, q < 30 → im_i M8 53 q = nI (if q = i then zS (fun j => gx (La j) (sy (i - j))) (i + 1) else if q < i then cv La sy q else 0).val := h8
      subst e
      show ed (f_HBlocks_makeEvaluator_L20 (nI i) (nI (i + 1)) M8) _
      unfold f_HBlocks_makeEvaluator_L20
      rw [if_nIlt (by omega) (by omega), if_pos (by omega)]
      refine ed_mk ⟨_, rfl, fun q hq => ?_, hf8⟩
      rw [h8 q hq]
      by_cases d : q = i
      · subst d
        rw [if_pos rfl, if_pos (by omega)]
        rfl
      · rw [if_neg d]
        by_cases d2 : q < i
        · rw [if_pos d2, if_pos (by omega)]
        · rw [if_neg d2, if_neg (by omega)]
    · show im_i M4 53 q = _
      rw [h q hq]
      by_cases d : q = i
      · subst d
        rw [if_neg (by omega), if_pos rfl]
        rfl
      · rw [if_neg d]
    · rintro R ⟨r1, r2⟩
      exact ed_mk ⟨_, rfl, nI_add i 1, r1, r2⟩
  · rintro s ⟨x3, M4⟩ ⟨e, h, hf⟩
    replace e : x3 = nI c := e
    replace h : ∀ q, q < 30 → im_i M4 53 q = nI (if q < c then cv La sy q else 0).val := h
    replace hf : fr (2 ^ 53) [] M M4 := hf
    subst e
    show ed (f_HBlocks_makeEvaluator_L10 (nI c) M4) _
    unfold f_HBlocks_makeEvaluator_L10
    rw [show im_i M4 43 12 = nI c from (fr_at hf (by decide)).trans h12, if_nIl (by omega) (by omega), if_pos (by omega)]
    exact ed_mk ⟨_, rfl, h, hf⟩
