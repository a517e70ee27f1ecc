/-! A SYMBOL, MADE BY BOTH -/
/-- codewords are bytes, wherever they are laid -/
theorem CWA_b {h n c : Nat} {D : Nat → Nat} {A : Nat → Int32} (hn : 0 < n) (hD : ∀ i, i < h → D i < 256) (hA : B8 A) : B8 (CWA h n c D A n) := by
  unfold CWA
  refine itN_inv (R := fun _ (A : Nat → Int32) => B8 A) (f := fun b A => bkA h n c D b A (szB h n b + c)) (s := A) hA n (fun b A1 hb q => ?_)
  show B8 (itN (fun i A => upI A (plcB h n b i) (nI (wvB h n c D b i))) A1 (szB h n b + c))
  refine itN_inv (R := fun _ (A : Nat → Int32) => B8 A) (f := fun i A => upI A (plcB h n b i) (nI (wvB h n c D b i))) (s := A1) q (szB h n b + c) (fun i A2 _ q2 k => ?_)
  show ∃ z, z < 256 ∧ upI A2 (plcB h n b i) (nI (wvB h n c D b i)) k = nI z
  by_cases e : k = plcB h n b i
  · exact ⟨wvB h n c D b i, wv_lt hn hb hD, by rw [e, up_hit]⟩
  · rw [up_sk e]
    exact q2 k
theorem two_make {Mc Mr : im_M} {k n l : Nat} {t : Nat → Nat} {mz : Int} (hc : OCl Mc k n t) (qp : PWL Mc) (q : TQ Mr n t) (qt : TBR Mr) (hl : l < 4) (hm : -1 ≤ mz ∧ mz ≤ 7) : ∃ (v : Nat) (G : Nat → Nat → Bool), (1 ≤ v ∧ v ≤ 40) ∧ ed (f_HGrid_make (nI (200 * k)) (nI n) (nI l) (iZ mz) Mc) (fun r => r.1 = 1 ∧ GRD r.2 (17 + 4 * v) G) ∧ ed (f_MSquareRows_make (nI l) 0 (iZ mz) Mr) (fun r => r.1 = nI v ∧ im_i r.2 108 7 = nI v ∧ im_i r.2 108 8 = nI (17 + 4 * v) ∧ (∀ x y, x < 17 + 4 * v → y < 17 + 4 * v → im_i r.2 112 (177 * y + x) = bI (G x y)) ∧ (B8 (im_i Mr 120) → B8 (im_i r.2 120))) := by
  -- the class
  obtain ⟨⟨v0, M1⟩, hp, v, hV, e1, d1, f1⟩ := s_packC hc hl
  replace e1 : v0 = nI v := e1
  subst e1
  have hv : 1 ≤ v ∧ v ≤ 40 := ⟨hV.1, hV.2.1⟩
  obtain ⟨n1, n2, k1, k2, o2, o3, o4, o5, hs⟩ := bc_n hv hl
  obtain ⟨D, hD⟩ : ∃ D : Nat → Nat, D = fun i => DTb (sgC (mdS t n (gp v)) t n (gp v) n).1 (HO v l) i := ⟨_, rfl⟩
  have Dl : ∀ i, i < HO v l → D i < 256 := fun i _ => by rw [hD]; exact DTb_lt
  obtain ⟨M2, hsp, s1, s2, f2⟩ := s_spread (M := M1) (D := D) (PWL_fr f1 (by decide +kernel) qp) hv hl (fun i hi => ⟨Dl i hi, by rw [hD]; exact d1 i hi⟩)
  obtain ⟨M3, hb, s0, z0, g3⟩ := s_beginG (M := M2) hv
  obtain ⟨sz, hsz⟩ : ∃ sz, sz = 17 + 4 * v := ⟨_, rfl⟩
  rw [← hsz] at z0 g3
  have nb : 21 ≤ sz ∧ sz ≤ 177 ∧ sz % 2 = 1 := by omega
  have nb2 : 21 ≤ sz ∧ sz ≤ 177 := ⟨nb.1, nb.2.1⟩
  obtain ⟨s, hs3⟩ : ∃ s, s = frmG sz v (fmW 8) s0 := ⟨_, rfl⟩
  have hF : FFx sz s := by rw [hs3]; exact frm_FF nb.2.1
  have ho : okG sz s := by rw [hs3]; exact frm_ok nb.2.1 z0
  have h6 : ∀ y, y < sz → fxd sz 6 y s := fun y hy => by rw [hs3]; exact frm_6 nb2 hy
  rw [← hs3] at g3
  obtain ⟨g31, g32, g33, g34, g35⟩ := g3
  obtain ⟨B, hB⟩ : ∃ B : Nat → Nat, B = fun k => (CWA (HO v l) (bcT (jx v l)) (ckT (jx v l)) D (lw8 M1) (bcT (jx v l)) k).toNatClampNeg := ⟨_, rfl⟩
  have Bv : ∀ (A : Nat → Int32) (k : Nat), k < CW v → B k < 256 ∧ CWA (HO v l) (bcT (jx v l)) (ckT (jx v l)) D A (bcT (jx v l)) k = nI (B k) := fun A k hk => by
    obtain ⟨x, x1, x2, x3⟩ := CWA_eq (c := ckT (jx v l)) (A := lw8 M1) (B := A) (D := D) (show 0 < bcT (jx v l) by omega) Dl k (by omega)
    have : B k = x := by rw [hB]; show (CWA _ _ _ _ _ _ k).toNatClampNeg = x; rw [x2]; exact nI_clamp (by omega)
    rw [this]
    exact ⟨x1, x3⟩
  have fN : fr (2 ^ 54 ||| 2 ^ 55) [(38, 1), (38, 6)] M2 M3 := fr_tr (fr_mono (by decide) (by simp) g35) (fr_F (by decide) (fr_F (by decide) fr_refl))
  have c3 : CCg M3 M3 sz (CW v) B s.2 s.1 := by
    refine ⟨g31, g34, (fN.1 43 13 (by decide) (by decide)).trans s2, fun k hk => ⟨(Bv (lw8 M1) k hk).1, ?_⟩, g33, fr_refl⟩
    rw [fN.1 44 k (by decide) (by simp)]
    have e := congrFun s1 k
    replace e : im_i M2 44 k &&& 255 = _ := e
    rw [e]
    exact (Bv (lw8 M1) k hk).2
  obtain ⟨M4, hcy, c41, c42, c43, c44, c45, c46⟩ := s_carryC c3 nb o5
  obtain ⟨G4, hG4⟩ : ∃ G4, G4 = (allC sz s.2 (fun c _ _ => bI (bitC B (CW v) c)) (s.1, 0)).1 := ⟨_, rfl⟩
  rw [← hG4] at c45
  have ne6 : ∀ y, y < sz → ¬ s.2 (177 * y + 6) = 0 := fun y hy => by
    have := h6 y hy
    unfold fxd at this
    rw [this]
    decide
  have cm4 : CMI M3 M4 sz v s G4 := by
    refine ⟨c41, (c46.1 38 6 (by decide) (by simp)).trans g32, c42, fun x y hx hy hz => ?_, fun x y hx hy hz _ => ?_, fr_mono (by decide) (by simp) c46⟩
    · obtain ⟨b, b1, _⟩ := all_rel (m := 0) (B := B) (W := CW v) (G := s.1) (G' := s.1) nb (fun _ _ _ _ => rfl) ne6 x y hx hy hz
      rw [c45, hG4, b1, dec_bI]
    · rw [c45, hG4, all_fix _ hz]
  -- the mask
  obtain ⟨M8, hmk, cm8⟩ : ∃ M8, (if (0 : Int32) ≤ iZ mz then some (iZ mz, M4) else bd2 (f_HGrid_bestMask (nI l) M4) fun (x6 : Int32) (M6 : im_M) => some (x6, M6)) = some (nI (bsK sz l s G4 mz), M8) ∧ CMI M3 M8 sz v s G4 := by
    have kz : ((0 : Int32) ≤ iZ mz) = (0 ≤ mz) := iZ_le (a := 0) (by omega) (by omega)
    unfold bsK
    simp only [kz]
    by_cases c : 0 ≤ mz
    · refine ⟨M4, ?_, cm4⟩
      rw [if_pos c, if_neg (by omega), iZ_nI]
      congr 2
      congr 1
      omega
    · obtain ⟨⟨x6, M6⟩, hb6, q1, q2⟩ := s_bestC cm4 nb2 hF ho hl
      replace q1 : x6 = nI (bmF (pnK sz l s G4) 8).1 := q1
      subst q1
      refine ⟨M6, ?_, q2⟩
      rw [if_neg c, if_pos (by omega), hb6, bd2_s]
  obtain ⟨b, hbk⟩ : ∃ b, b = bsK sz l s G4 mz := ⟨_, rfl⟩
  have b8 : b < 8 := by
    rw [hbk]
    unfold bsK
    by_cases c : mz < 0
    · rw [if_pos c]
      exact ((bmF_b (fun k => pnK_b nb2) 8).2.2 (by omega)).2
    · rw [if_neg c]
      omega
  rw [← hbk] at hmk
  obtain ⟨N8, hN8⟩ : ∃ N8, N8 = im_setI M8 38 3 (nI b) := ⟨_, rfl⟩
  have n83 : im_i N8 38 3 = nI b := by rw [hN8]; exact hit
  have cn8 : CMI N8 N8 sz v s G4 := by
    obtain ⟨q1, q2, q3, q4, q5, q6⟩ := cm8
    refine ⟨by rw [hN8, sk1 (by omega)]; exact q1, by rw [hN8, sk1 (by omega)]; exact q2, by rw [hN8, up_o (by decide)]; exact q3, fun x y hx hy hz => by rw [hN8, sk1 (by omega)]; exact q4 x y hx hy hz, fun x y hx hy h1 h2 => by rw [hN8, sk1 (by omega)]; exact q5 x y hx hy h1 h2, fr_refl⟩
  obtain ⟨R, hR, r1, _, _, r4, _, _⟩ := s_maskC (l := l) (k := b) cn8 nb2 hF ho hl
  obtain ⟨M11, hM11, hM12⟩ : ∃ M11, f_HGrid_turnMask (nI b) N8 = some M11 ∧ f_HGrid_fixForm (nI l) (nI b) M11 = some R := by
    cases z : f_HGrid_turnMask (nI b) N8 with
    | none => rw [z] at hR; cases hR
    | some M11 => rw [z] at hR; exact ⟨M11, rfl, hR⟩
  have m113 : im_i M11 38 3 = nI b := ((f_HGrid_turnMask_fr hM11).1 38 3 (by decide) (by simp)).trans n83
  refine ⟨v, gK sz s G4 (fmW (8 * (l ^^^ 1) + b)) b, hv, ?_, ?_⟩
  · rw [← hsz]
    unfold f_HGrid_make
    rw [hp, bd2_s, if_pos (nI_z (by omega) (by omega)), hsp, bd1_s, hb, bd1_s, hcy, bd1_s, hmk, bd2_s, ← hN8, n83, hM11, bd1_s, m113, hM12, bd1_s]
    refine ed_mk ⟨rfl, r1, nb.2.1, fun c r hc hr => ?_⟩
    show (im_i R 54 (177 * r + c) = 0) = _
    rw [r4 c r hc hr, bI_0]
  -- the reference
  · rw [← hsz]
    unfold f_MSquareRows_make
    have a0 : (nI l < 0) = (l < 0) := nIlt (c := 0) (by omega) (by omega)
    have a1 : ((3 : Int32) < nI l) = (3 < l) := nIlt (x := 3) (by omega) (by omega)
    have a2 : (iZ mz < (-1)) = (mz < -1) := iZ_lt (b := -1) (by omega) (by omega)
    have a3 : (iZ mz ≤ 7) = (mz ≤ 7) := iZ_le (b := 7) (by omega) (by omega)
    simp only [jn0, a0, a1, a2, a3]
    rw [if_neg (show ¬ l < 0 by omega), if_neg (show ¬ 3 < l by omega), if_neg (show ¬ (0 : Int32) < 0 by decide), if_neg (show ¬ (40 : Int32) < 0 by decide), if_neg (show ¬ mz < -1 by omega), if_pos hm.2, bd1_s, if_pos (show im_i (im_setI Mr 108 0 0) 108 0 ≤ 0 by rw [hit]; decide)]
    have f0 : fr 0 [(108, 0)] Mr (im_setI Mr 108 0 0) := fr_F (by decide) fr_refl
    have q0 := TQ_fr f0 (by decide +kernel) q
    have t0 := TBR_fr f0 (by decide +kernel) qt
    apply bd2_mk
    refine ed_mono (s_versionFor q0 t0 hl) ?_
    rintro ⟨x12, M12⟩ ⟨v', hV', e12, m12, f12⟩
    replace e12 : x12 = nI v' := e12
    obtain rfl : v' = v := VR_1 hV' hV
    subst e12
    have k0 : (0 : Int32) ≤ nI v' := by rw [show (0 : Int32) = nI 0 from rfl, nIl (by omega) (by omega)]; omega
    rw [if_pos k0]
    have t12 := TBR_fr f12 (by decide +kernel) t0
    apply bd1_mk
    refine ed_mono (s_layAll (TQ_fr f12 (by decide +kernel) q0) t12 hv hl hV.2.2.1 m12) ?_
    rintro M13 ⟨d13, f13⟩
    apply bd1_mk
    refine ed_mono (s_checkM (D := D) (TBR_fr f13 (by decide +kernel) t12) hv hl (fun i hi => ⟨Dl i hi, by rw [hD]; exact d13 i hi⟩)) ?_
    rintro M14 ⟨w14, f14⟩
    apply bd1_mk
    refine ed_mono (s_frameG (M := im_setI M14 108 7 (nI v')) hv) ?_
    rintro M15 ⟨s0', z0', g15⟩
    rw [← hsz] at z0' g15
    obtain ⟨g1, g2, g3, g4⟩ := g15
    have c16 : f_MSquareRows_allCodewords (nI v') M15 = some (nI (CW v')) := cw_r ⟨v', by omega⟩ hv.1
    have eq0 : EQg sz (fun _ _ => False) s0 s0' := fun x y hx hy => by
      obtain ⟨u1, u2⟩ := z0 x y hx hy
      obtain ⟨u3, u4⟩ := z0' x y hx hy
      exact ⟨by rw [u2, u4], fun _ => by rw [u1, u3]⟩
    have eqF : EQg sz (isF sz 0) s (frmG sz v' (fmW 0) s0') := by rw [hs3]; exact frm_eq nb.2.1 eq0
    have rm : RMI M15 M15 sz (CW v') B s := by
      refine ⟨g1, fun k hk => ⟨(Bv (lw8 M1) k hk).1, ?_⟩, fun x y hx hy => ?_, fr_refl⟩
      · rw [g4.1 120 k (by decide) (by simp), sk1 (by omega), sk1 (by omega), w14]
        exact (Bv _ k hk).2
      · rw [show (im_i M15 112, im_i M15 113) = frmG sz v' (fmW 0) s0' from by rw [g2, g3]]
        obtain ⟨u1, u2⟩ := eqF x y hx hy
        exact ⟨u1, fun z => u2 (fun u => z (Or.inl u))⟩
    rw [c16, bd1_s]
    apply bd3_mk
    refine ed_mono (s_masksR rm nb o5 hF ho h6 hl hG4 hm) ?_
    rintro ⟨y59, y60, M61⟩ ⟨e59, rm61⟩
    replace e59 : y59 = nI (bsK sz l s G4 mz) := e59
    rw [← hbk] at e59
    subst e59
    replace rm61 : RMI M15 M61 sz (CW v') B s := rm61
    obtain ⟨R2, hR2, rr1, rr2⟩ := s_maskR (k := b) rm61 nb o5 hF ho h6 (num_32 ⟨l, hl⟩ ⟨b, b8⟩) hG4
    obtain ⟨N1, e1, e2⟩ : ∃ N1, f_MSquareRows_layForm (nI (8 * (l ^^^ 1) + b)) M61 = some N1 ∧ f_MSquareRows_goThrough (nI b) 0 (nI (CW v')) N1 = some R2 := by
      cases z : f_MSquareRows_layForm (nI (8 * (l ^^^ 1) + b)) M61 with
      | none => rw [z] at hR2; cases hR2
      | some N1 => rw [z] at hR2; exact ⟨N1, rfl, hR2⟩
    have fn : f_MSquareRows_formNumber (nI l) (nI b) M61 = some (nI (8 * (l ^^^ 1) + b)) := fn_t ⟨l, hl⟩ b
    have v7 : im_i R2 108 7 = nI v' := by
      rw [rr1.2.2.2.1 108 7 (by decide) (by simp), g4.1 108 7 (by decide) (by simp), sk1 (by omega)]
      exact hit
    rw [fn, bd1_s, e1, bd1_s, e2, bd1_s, gd_pos (by decide), gd_pos (by decide), gd_pos (by decide), gd_pos (by decide), gd_pos (by decide), gd_pos (by decide)]
    refine ed_mk ⟨rfl, ?_, ?_, fun x y hx hy => ?_, fun hb8 => ?_⟩
    · show im_i (im_setI (im_setI (im_setI (im_setI (im_setI (im_setI (im_setI R2 108 9 1) 114 _ _) 114 _ _) 114 _ _) 114 _ _) 114 _ _) 114 _ _) 108 7 = _
      rw [sk1 (by omega), sk1 (by omega), sk1 (by omega), sk1 (by omega), sk1 (by omega), sk1 (by omega), sk1 (by omega)]
      exact v7
    · show im_i (im_setI (im_setI (im_setI (im_setI (im_setI (im_setI (im_setI R2 108 9 1) 114 _ _) 114 _ _) 114 _ _) 114 _ _) 114 _ _) 114 _ _) 108 8 = _
      rw [sk1 (by omega), sk1 (by omega), sk1 (by omega), sk1 (by omega), sk1 (by omega), sk1 (by omega), sk1 (by omega)]
      exact rr1.1
    · show im_i (im_setI (im_setI (im_setI (im_setI (im_setI (im_setI (im_setI R2 108 9 1) 114 _ _) 114 _ _) 114 _ _) 114 _ _) 114 _ _) 114 _ _) 112 (177 * y + x) = _
      rw [sk1 (by omega), sk1 (by omega), sk1 (by omega), sk1 (by omega), sk1 (by omega), sk1 (by omega), sk1 (by omega)]
      exact rr2 x y hx hy
    · have e120 : im_i R2 120 = CWA (HO v' l) (bcT (jx v' l)) (ckT (jx v' l)) D (im_i Mr 120) (bcT (jx v' l)) := by
        rw [fr_c rr1.2.2.2 120 (by decide) (by simp), fr_c g4 120 (by decide) (by simp), up_o (by decide), up_o (by decide), w14, fr_c f13 120 (by decide) (by decide), fr_c f12 120 (by decide) (by decide), up_o (by decide)]
      show B8 (im_i (im_setI (im_setI (im_setI (im_setI (im_setI (im_setI (im_setI R2 108 9 1) 114 _ _) 114 _ _) 114 _ _) 114 _ _) 114 _ _) 114 _ _) 120)
      rw [up_o (by decide), up_o (by decide), up_o (by decide), up_o (by decide), up_o (by decide), up_o (by decide), up_o (by decide), e120]
      exact CWA_b (by omega) Dl hb8
