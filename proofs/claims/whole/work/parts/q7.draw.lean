/-! AN ORDER, FOLLOWED BY BOTH -/
theorem smV_c {V U : Nat → Nat} : ∀ n, (∀ i, i < n → V i = U i) → smV V n = smV U n := by
  intro n
  induction n with
  | zero => intro _; rfl
  | succ n ih =>
    intro h
    show smV V n + V n = smV U n + U n
    rw [ih (fun i hi => h i (by omega)), h n (by omega)]
theorem smV_app {V U : Nat → Nat} {n : Nat} : ∀ d, smV (app V n U) (n + d) = smV V n + smV U d := by
  intro d
  induction d with
  | zero => exact smV_c n (fun i hi => if_pos hi)
  | succ d ih =>
    show smV (app V n U) (n + d) + app V n U (n + d) = smV V n + (smV U d + U d)
    have e : app V n U (n + d) = U d := by
      unfold app
      rw [if_neg (by omega), Nat.add_sub_cancel_left]
    rw [ih, e]
    omega
theorem sym_11 : ∀ j : Fin 106, smV (dig 6 (xa_3 (nI j.val)).toNatClampNeg) 6 = 11 := by decide +kernel
theorem rwW_sm {q : Nat → Nat} {k : Nat} (h : ∀ l, l < k → q l < 106) : ∀ l, l ≤ k → smV (rwW q l) (6 * l) = 11 * l := by
  intro l
  induction l with
  | zero => intro _; rfl
  | succ l ih =>
    intro hl
    show smV (app (rwW q l) (6 * l) (dig 6 (rwP q l))) (6 * l + 6) = _
    have e : smV (dig 6 (rwP q l)) 6 = 11 := sym_11 ⟨q l, h l (by omega)⟩
    rw [smV_app, ih (by omega), e]
    omega
theorem rwVv_sm {q : Nat → Nat} {k : Nat} (h : ∀ l, l < k → q l < 106) : smV (rwVv q k) (6 * k + 7) = 11 * k + 13 := by
  have e : smV (dig 7 2331112) 7 = 13 := by decide +kernel
  unfold rwVv
  rw [smV_app, rwW_sm h k (Nat.le_refl _), e]
/-- an answer of an order -/
def ansO (z : Int32) : Prop := z = -1 ∨ ∃ c : Nat, c ≤ 300000 ∧ z = nI c
theorem ans_al {P : Nat → Nat → Bool} {W H : Nat} (hW : W ≤ 512) (hH : H ≤ 512) : ansO (nI (allB P W H)) := Or.inr ⟨_, by have := allB_le (B := P) hW H; omega, rfl⟩
theorem fin_c {w : Bool} {M : im_M} {a W H : Nat} {D P : Nat → Nat → Bool} {wy : Int32} (ha : a < 120) (h : ed (folC w (nI a) (im_i M 13 (14 * a + 5)) (im_i M 13 (14 * a + 6)) (im_i M 13 (14 * a + 7)) (im_i M 13 (14 * a + 0)) (hdC M a)) (fun r => r.1 = 1 ∧ ∃ Mb, CDS w Mb r.2 W H D P wy)) : ed (f_HPen_follow w (nI a) M) (fun r => r.1 = nI (allB P W H) ∧ DH w r.2 W H (DOs W H D P wy)) := by
  rw [fol_un ha]
  apply bd2_mk
  refine ed_mono h ?_
  rintro ⟨y24, M25⟩ ⟨e, Mb, q⟩
  replace e : y24 = 1 := e
  subst e
  rw [if_neg (show ¬ (1 : Int32) = 0 by decide)]
  exact ed_mk ⟨(CDS_fin q).2, (CDS_fin q).1⟩
theorem fin_n {w : Bool} {M : im_M} {a W H : Nat} {D : Nat → Nat → Bool} (ha : a < 120) (h : ed (folC w (nI a) (im_i M 13 (14 * a + 5)) (im_i M 13 (14 * a + 6)) (im_i M 13 (14 * a + 7)) (im_i M 13 (14 * a + 0)) (hdC M a)) (fun r => r.1 = 0 ∧ DH w r.2 W H D)) : ed (f_HPen_follow w (nI a) M) (fun r => r.1 = -1 ∧ DH w r.2 W H D) := by
  rw [fol_un ha]
  apply bd2_mk
  refine ed_mono h ?_
  rintro ⟨y24, M25⟩ ⟨e, q⟩
  replace e : y24 = 0 := e
  subst e
  rw [if_pos (show (0 : Int32) = 0 from rfl)]
  exact ed_mk ⟨rfl, q⟩
theorem two_draw {w : Bool} {Mc Mr : im_M} {W H a n : Nat} {D : Nat → Nat → Bool} (h : ORD Mc Mr a n) (hc : DH w Mc W H D) (hr : DR Mr W H D) (hF : RF (im_i Mc 57) (im_i Mr 93) (im_i Mc 58) (im_i Mr 94)) (hp : PWL Mc) (ht : TBR Mr) (t97 : im_i Mr 97 = im_i mm_341 97) (t98 : im_i Mr 98 = im_i mm_341 98) (t99 : im_i Mr 99 = im_i mm_341 99) : ∃ (z : Int32) (D' : Nat → Nat → Bool), ansO z ∧ ed (f_HPen_follow w (nI a) Mc) (fun r => r.1 = z ∧ DH w r.2 W H D') ∧ ed (f_M_draw (nI a) Mr) (fun r => r.1 = z ∧ DR r.2 W H D') := by
  obtain ⟨sz0, B, ocl, om, e8⟩ := ORD_B h
  obtain ⟨h1, h2, h3, h4, hOG, _⟩ := h
  obtain ⟨kd, qd, sz, x, y, p, s, t, ⟨r0, r1, r2, r3, r5, r6, r7, r8⟩, rwy, ⟨x1, x2, y1, y2, q4, s200⟩, kinds⟩ := hOG
  replace r0 : im_i Mc 13 (14 * a + 0) = nI kd := r0
  replace r1 : im_i Mc 13 (14 * a + 1) = iZ x := r1
  replace r2 : im_i Mc 13 (14 * a + 2) = iZ y := r2
  replace r3 : im_i Mc 13 (14 * a + 3) = nI qd := r3
  replace r5 : im_i Mc 13 (14 * a + 5) = iZ p := r5
  replace r6 : im_i Mc 13 (14 * a + 6) = iZ s := r6
  replace r7 : im_i Mc 13 (14 * a + 7) = iZ t := r7
  replace r8 : im_i Mc 13 (14 * a + 8) = nI sz := r8
  obtain ⟨wy, hwy⟩ : ∃ wy, wy = im_i Mc 13 (14 * a + 4) := ⟨_, rfl⟩
  replace rwy : im_i Mc 13 (14 * a + 4) = 0 ∨ im_i Mc 13 (14 * a + 4) = 2 := rwy
  rw [← hwy] at rwy
  have sz1 := ocl.2.1
  have esz : sz0 = sz := by
    rw [r8] at e8
    have : (nI sz = nI sz0) = (sz = sz0) := nIe (by omega) (by omega)
    rw [this] at e8
    exact e8.symm
  subst esz
  have ha : a < 120 := by omega
  have hW := hc.1
  have aW : ∀ P : Nat → Nat → Bool, ansO (nI (allB P W H)) := fun P => ans_al hW.2.1 hW.2.2.2
  -- the class's head
  have fN := hdC_fr (M := Mc) (a := a)
  have n28 : im_i (hdC Mc a) 28 2 = (if wy = 2 then 1 else 0) := by
    unfold hdC
    rw [sk1 (by omega), hit, ← hwy]
    by_cases c : wy = 2
    · rw [if_neg (fun z => z c), if_pos c]
    · rw [if_pos c, if_neg c]
  have n283 : im_i (hdC Mc a) 28 3 = 0 := hit
  have pn : PN (hdC Mc a) x y qd := by
    unfold hdC
    refine ⟨?_, ?_, ?_, q4, x1, x2, y1, y2⟩
    · rw [sk1 (by omega), sk1 (by omega), sk1 (by omega), sk1 (by omega), hit, r1]
    · rw [sk1 (by omega), sk1 (by omega), sk1 (by omega), hit, r2]
    · rw [sk1 (by omega), sk1 (by omega), hit, r3]
  have dN := DH_fr fN (by decide +kernel) hc
  have cN : CDS w (hdC Mc a) (hdC Mc a) W H D (fun _ _ => false) wy := CDS_0 dN n28 n283
  have oN : OCl (hdC Mc a) a sz0 B := OCl_fr fN (by decide +kernel) ocl
  have a13 : im_i (hdC Mc a) 13 = im_i Mc 13 := fr_c fN 13 (by decide) (by decide)
  have aw : (nI a * 200 : Int32) = nI (200 * a) := by rw [show (200 : Int32) = nI 200 from rfl, nI_mul, Nat.mul_comm]
  have v8 : f_HOrders_value_1 (nI a) 8 (hdC Mc a) = some (nI sz0) := by
    have : f_HOrders_value_1 (nI a) 8 (hdC Mc a) = some (im_i (hdC Mc a) 13 (14 * a + 8)) := s_value1 (u := 8) ha (by omega)
    rw [this, a13, r8]
  -- the reference's head
  obtain ⟨Mh, hM, fM, m3, m7⟩ := drw_un (M := Mr) h3 h2 h1 (show im_i Mr 87 (9 * a + 4) = wy by rw [h4 4 (by omega), hwy]) rwy
  rw [h4 1 (by omega), h4 2 (by omega), h4 3 (by omega), h4 5 (by omega), h4 6 (by omega), h4 7 (by omega), h4 0 (by omega), r0, r1, r2, r3, r5, r6, r7] at hM
  have dM := DR_fr fM (by decide +kernel) hr
  have oM := OM_fr fM (by decide +kernel) om
  have X : -4096 ≤ x ∧ x ≤ 4096 := ⟨x1, x2⟩
  have Y : -4096 ≤ y ∧ y ≤ 4096 := ⟨y1, y2⟩
  -- closing
  have close : ∀ P : Nat → Nat → Bool, ed (folC w (nI a) (iZ p) (iZ s) (iZ t) (nI kd) (hdC Mc a)) (fun r => r.1 = 1 ∧ ∃ Mb, CDS w Mb r.2 W H D P wy) → ed (drwC (nI a) (iZ x) (iZ y) (nI qd) (iZ p) (iZ s) (iZ t) (nI kd) Mh) (fun r => r.1 = nI (allB P W H) ∧ DR r.2 W H (DOs W H D P wy)) → ∃ (z : Int32) (D' : Nat → Nat → Bool), ansO z ∧ ed (f_HPen_follow w (nI a) Mc) (fun r => r.1 = z ∧ DH w r.2 W H D') ∧ ed (f_M_draw (nI a) Mr) (fun r => r.1 = z ∧ DR r.2 W H D') := fun P c1 c2 => by
    refine ⟨nI (allB P W H), DOs W H D P wy, aW P, fin_c ha ?_, ?_⟩
    · rw [r0, r5, r6, r7]
      exact c1
    · rw [hM]
      exact c2
  rcases kinds with ⟨k, p0, p3, s1, s10, t1, t10⟩ | ⟨k, p1, p50, s1, s2, tt, z1⟩ | ⟨k, p1, p50, s1, s2, tt, z12, hg⟩ | ⟨k, p1, p50, s0, s3, t1, t7, z1⟩ | ⟨k, p1, p2, s1, s2, t1, t2, z0⟩ | ⟨k, p1, p2, s1, s2, t1, t2, z0, b1, b2, b3, b4⟩ | ⟨k, p1, p2, s0, tt, z1, z2, zm⟩
  · -- texts
    subst k
    obtain ⟨f, rfl⟩ : ∃ f : Nat, p = (f : Int) := ⟨p.toNat, by omega⟩
    obtain ⟨u, rfl⟩ : ∃ u : Nat, s = (u : Int) := ⟨s.toNat, by omega⟩
    obtain ⟨v, rfl⟩ : ∃ v : Nat, t = (v : Int) := ⟨t.toNat, by omega⟩
    rw [← iZ_nI] at r5 r6 r7
    obtain ⟨g1, g2, g3⟩ := hF
    obtain ⟨wd, hg, gp', c1, c2, c3, c4, c5, c6, c7, c8⟩ := g3 f (by omega)
    have a57 : im_i (hdC Mc a) 57 = im_i Mc 57 := fr_c fN 57 (by decide) (by decide)
    have a58 : im_i (hdC Mc a) 58 = im_i Mc 58 := fr_c fN 58 (by decide) (by decide)
    have fc : FNT (im_i (hdC Mc a) 57) f wd hg gp' := by rw [a57]; exact ⟨by omega, c1, c2, c3, c4, c5, c6, c7, c8⟩
    refine close (qB qd x y (txT (im_i (hdC Mc a) 58) B f wd hg (wd + gp') u v sz0)) ?_ ?_
    · unfold folC
      rw [if_pos (show nI 0 = 0 from rfl)]
      apply bd1_mk
      exact ed_mono (s_drawText cN pn oN fc (by rw [a13]; exact r5) (by rw [a13]; exact r6) (by rw [a13]; exact r7) (by omega) (by omega)) (fun R hR => ed_mk ⟨rfl, _, hR⟩)
    · unfold drwC
      rw [if_pos (show nI 0 = 0 from rfl)]
      apply bd1_mk
      refine ed_mono (s_draftData oM m7) ?_
      rintro M11 ⟨f11, d11⟩
      have f11a : fr (2 ^ 92) [(71, 0), (89, 0), (89, 3), (89, 7)] Mr M11 := fr_tr (fr_mono (by decide) (by decide) f11) (fr_mono (by decide) (by decide) fM)
      have a93 : im_i M11 93 = im_i Mr 93 := fr_c f11a 93 (by decide) (by decide)
      have a94 : im_i M11 94 = im_i Mr 94 := fr_c f11a 94 (by decide) (by decide)
      have fr93 : FNT (im_i M11 93) f wd hg gp' := by
        rw [a93]
        refine ⟨by omega, ?_, ?_, ?_, c4, c5, c6, c7, c8⟩
        · rw [g1 _ (by omega)]; exact c1
        · rw [g1 _ (by omega)]; exact c2
        · rw [g1 _ (by omega)]; exact c3
      have q := s_textM (M := M11) (q := qd) (f := f) (p := u) (ps := v) (C := im_i (hdC Mc a) 58) (DR_fr f11 (by decide +kernel) dM) ((f11.1 89 3 (by decide) (by decide)).trans m3) rwy X Y fr93 (fun k hk => by rw [a94, a58]; exact g2 k hk) (by omega) (by omega) q4 d11 (by omega)
      rw [← iZ_nI, ← iZ_nI, ← iZ_nI]
      apply bd2_mk
      exact ed_mono q (fun r hr => ed_mk ⟨hr.1, hr.2.1⟩)
  · -- rows of texts
    subst k
    obtain ⟨m, rfl⟩ : ∃ m : Nat, p = (m : Int) := ⟨p.toNat, by omega⟩
    obtain ⟨hh, rfl⟩ : ∃ hh : Nat, s = (hh : Int) := ⟨s.toNat, by omega⟩
    have lay := s_layText oN
    have row := s_draftRow oM m7 (by rw [fr_c fM 97 (by decide) (by decide)]; exact t97)
    obtain ⟨⟨x13, M13⟩, hl, f13, e13, g13⟩ := lay
    replace f13 : fr (2 ^ 33 ||| 2 ^ 34 ||| 2 ^ 35 ||| 2 ^ 36) [(31, 2), (31, 6), (31, 9)] (hdC Mc a) M13 := f13
    replace e13 : x13 = if rwG sz0 B = true then 1 else 0 := e13
    obtain ⟨⟨y13, R13⟩, hw, k13, i13, j13⟩ := row
    replace k13 : fr (2 ^ 92 ||| 2 ^ 100 ||| 2 ^ 101 ||| 2 ^ 102 ||| 2 ^ 103) [(71, 0), (89, 0), (89, 7), (96, 3), (96, 5), (96, 8), (96, 10)] Mh R13 := k13
    replace i13 : y13 = if rwG sz0 B = true then 1 else 0 := i13
    have d13 := DH_fr f13 (by decide +kernel) dN
    have dr13 := DR_fr k13 (by decide +kernel) dM
    have fc : folC w (nI a) (iZ (m : Int)) (iZ (hh : Int)) (iZ t) (nI 1) (hdC Mc a) = bd1 (f_HPen_drawBars w x13 (iZ (m : Int)) (iZ (hh : Int)) M13) fun (M14 : im_M) => some (x13, M14) := by
      unfold folC
      rw [if_neg (show ¬ nI 1 = 0 by decide), if_pos (show nI 1 = 1 from rfl), v8, bd1_s, aw, hl, bd2_s]
    have fd : drwC (nI a) (iZ x) (iZ y) (nI qd) (iZ (m : Int)) (iZ (hh : Int)) (iZ t) (nI 1) Mh = if y13 = 0 then some ((-1), R13) else bd2 (f_MDotRows_bars (iZ x) (iZ y) (iZ (hh : Int)) (iZ (m : Int)) (nI qd) R13) fun (x14 : Int32) (M14 : im_M) => some (x14, M14) := by
      unfold drwC
      rw [if_neg (show ¬ nI 1 = 0 by decide), if_pos (show nI 1 = 1 from rfl), hw, bd2_s]
    by_cases g : rwG sz0 B = true
    · rw [if_pos g] at e13 i13
      subst e13 i13
      obtain ⟨kb, bw⟩ := g13 g
      have gg := rwG_t.mp g
      have sm := rwVv_sm (rwQ_b gg.1 gg.2)
      have mb : m * smV (rwVv (rwQ B sz0) (rwK B sz0)) (6 * rwK B sz0 + 7) ≤ 50 * 1443 := Nat.mul_le_mul (by omega) (by omega)
      have c13 : CDS w M13 M13 W H D (fun _ _ => false) wy := CDS_0 d13 ((f13.1 28 2 (by decide) (by decide)).trans n28) ((f13.1 28 3 (by decide) (by decide)).trans n283)
      refine close (qB qd x y (brT (rwVv (rwQ B sz0) (rwK B sz0)) m hh (6 * rwK B sz0 + 7))) ?_ ?_
      · rw [fc, ← iZ_nI, ← iZ_nI]
        apply bd1_mk
        exact ed_mono (s_drawBars c13 (PN_fr f13 (by decide +kernel) pn) bw (by omega) (by omega)) (fun R hR => ed_mk ⟨rfl, _, hR⟩)
      · rw [fd, if_neg (show ¬ (1 : Int32) = 0 by decide), ← iZ_nI, ← iZ_nI]
        apply bd2_mk
        exact ed_mono (s_barsM dr13 ((k13.1 89 3 (by decide) (by decide)).trans m3) rwy X Y (by omega) (by omega) q4 (j13 g) (by omega)) (fun r hr => ed_mk ⟨hr.1, hr.2.1⟩)
    · rw [if_neg g] at e13 i13
      subst e13 i13
      refine ⟨-1, D, Or.inl rfl, fin_n ha ?_, ?_⟩
      · rw [r0, r5, r6, r7, fc, s_noBars, bd1_s]
        exact ed_mk ⟨rfl, d13⟩
      · rw [hM, fd, if_pos (show (0 : Int32) = 0 from rfl)]
        exact ed_mk ⟨rfl, dr13⟩
  · -- thirteen figures
    subst k
    obtain ⟨m, rfl⟩ : ∃ m : Nat, p = (m : Int) := ⟨p.toNat, by omega⟩
    obtain ⟨hh, rfl⟩ : ∃ hh : Nat, s = (hh : Int) := ⟨s.toNat, by omega⟩
    obtain ⟨g, hg2⟩ : ∃ g : Nat → Nat, ∀ i, i < 12 → g i < 10 ∧ im_i Mc 14 (200 * a + i) = nI (48 + g i) := by
      have ch : ∀ i : Nat, ∃ u : Nat, i < 12 → u < 10 ∧ im_i Mc 14 (200 * a + i) = nI (48 + u) := fun i => by
        by_cases c : i < 12
        · obtain ⟨u, u1, u2⟩ := hg i c
          exact ⟨u, fun _ => ⟨u1, u2⟩⟩
        · exact ⟨0, fun z => absurd z c⟩
      exact ⟨fun i => Classical.choose (ch i), fun i hi => Classical.choose_spec (ch i) hi⟩
    have g10 : ∀ i, i < 12 → g i < 10 := fun i hi => (hg2 i hi).1
    have a14 : im_i (hdC Mc a) 14 = im_i Mc 14 := fr_c fN 14 (by decide) (by decide)
    have oM2 : OM Mh a 12 (fun i => 48 + g i) := by
      obtain ⟨o1, o2, o3, o4⟩ := oM
      rw [z12] at o3 o4
      refine ⟨o1, by omega, o3, fun i hi => ?_⟩
      have u1 := g10 i hi
      refine ⟨by show 48 + g i < 256; omega, ?_⟩
      rw [(o4 i hi).2]
      have v1 := (oN.2.2.2 i (by omega)).2
      rw [a14, (hg2 i hi).2] at v1
      rw [← v1]
      exact n255 ⟨48 + g i, by omega⟩
    have sm : smV (figV g) 59 ≤ 9 * 59 := smV_9 (fun i hi => (figV_p g10 i hi).2)
    have mb : m * smV (figV g) 59 ≤ 50 * 531 := Nat.mul_le_mul (by omega) (by omega)
    refine close (qB qd x y (brT (figV g) m hh 59)) ?_ ?_
    · unfold folC
      rw [if_neg (show ¬ nI 2 = 0 by decide), if_neg (show ¬ nI 2 = 1 by decide), if_pos (show nI 2 = 2 from rfl), ← iZ_nI, ← iZ_nI]
      apply bd1_mk
      refine ed_mono (s_layFigures ha (fun i hi => by rw [a14]; exact hg2 i hi)) ?_
      rintro M15 ⟨b15, f15⟩
      have c15 : CDS w M15 M15 W H D (fun _ _ => false) wy := CDS_0 (DH_fr f15 (by decide +kernel) dN) ((f15.1 28 2 (by decide) (by decide)).trans n28) ((f15.1 28 3 (by decide) (by decide)).trans n283)
      apply bd1_mk
      exact ed_mono (s_drawBars c15 (PN_fr f15 (by decide +kernel) pn) b15 (by omega) (by omega)) (fun R hR => ed_mk ⟨rfl, _, hR⟩)
    · unfold drwC
      rw [if_neg (show ¬ nI 2 = 0 by decide), if_neg (show ¬ nI 2 = 1 by decide), if_pos (show nI 2 = 2 from rfl), ← iZ_nI, ← iZ_nI]
      apply bd1_mk
      refine ed_mono (s_draftThirteen oM2 g10 m7 (by rw [fr_c fM 98 (by decide) (by decide)]; exact t98) (by rw [fr_c fM 99 (by decide) (by decide)]; exact t99)) ?_
      rintro M15 ⟨d15, f15⟩
      apply bd2_mk
      exact ed_mono (s_barsM (DR_fr f15 (by decide +kernel) dM) ((f15.1 89 3 (by decide) (by decide)).trans m3) rwy X Y (by omega) (by omega) q4 d15 (by omega)) (fun r hr => ed_mk ⟨hr.1, hr.2.1⟩)
  · -- square symbols
    subst k
    obtain ⟨m, rfl⟩ : ∃ m : Nat, p = (m : Int) := ⟨p.toNat, by omega⟩
    obtain ⟨l, rfl⟩ : ∃ l : Nat, s = (l : Int) := ⟨s.toNat, by omega⟩
    obtain ⟨v, G, Bs, hv, hmc, hmr, hgb⟩ := two_symbol (mz := t) oN (PWL_fr fN (by decide +kernel) hp) oM (TBR_fr fM (by decide +kernel) ht) (show l < 4 by omega) ⟨t1, t7⟩ (by rw [fM.1 87 _ (by decide) (by simp), h4 6 (by omega), r6, iZ_nI]) (by rw [fM.1 87 _ (by decide) (by simp), h4 7 (by omega), r7]) m7
    obtain ⟨⟨x18, M18⟩, hm1, e18, g18⟩ := hmc
    replace e18 : x18 = 1 := e18
    subst e18
    obtain ⟨⟨x17, M17⟩, hm2, e17, d17, _⟩ := hmr
    replace e17 : x17 = nI (17 + 4 * v) := e17
    subst e17
    have f18 := f_HGrid_make_fr hm1
    have f17 := f_M_draftSymbol_fr hm2
    replace g18 : GRD M18 (17 + 4 * v) G := g18
    replace d17 : DFT M17 ((17 + 4 * v) * (17 + 4 * v) / 8 + 1) Bs := d17
    replace f18 : fr 54490696760950784 [(38, 1), (38, 3), (38, 6), (39, 5), (43, 10), (43, 11), (43, 12), (43, 13)] (hdC Mc a) M18 := f18
    replace f17 : fr 175455499300131387966629787808437370880 [(71, 0), (89, 0), (89, 7), (108, 0), (108, 4), (108, 7), (108, 8), (108, 9), (108, 13), (108, 16), (108, 19)] Mh M17 := f17
    have c18 : CDS w M18 M18 W H D (fun _ _ => false) wy := CDS_0 (DH_fr f18 (by decide +kernel) dN) ((f18.1 28 2 (by decide) (by decide)).trans n28) ((f18.1 28 3 (by decide) (by decide)).trans n283)
    refine close (qB qd x y (sqT G (17 + 4 * v) m)) ?_ ?_
    · unfold folC
      rw [if_neg (show ¬ nI 3 = 0 by decide), if_neg (show ¬ nI 3 = 1 by decide), if_neg (show ¬ nI 3 = 2 by decide), if_pos (show nI 3 = 3 from rfl), v8, bd1_s, aw, ← iZ_nI, ← iZ_nI, hm1, bd2_s]
      apply bd1_mk
      exact ed_mono (s_drawSquare c18 (PN_fr f18 (by decide +kernel) pn) g18 (by omega)) (fun R hR => ed_mk ⟨rfl, _, hR⟩)
    · unfold drwC
      rw [if_neg (show ¬ nI 3 = 0 by decide), if_neg (show ¬ nI 3 = 1 by decide), if_neg (show ¬ nI 3 = 2 by decide), if_pos (show nI 3 = 3 from rfl), hm2, bd2_s, ← iZ_nI (n := m)]
      apply bd2_mk
      exact ed_mono (s_squareM (DR_fr f17 (by decide +kernel) dM) ((f17.1 89 3 (by decide) (by decide)).trans m3) rwy X Y (by omega) (by omega) q4 d17 (by omega) hgb) (fun r hr => ed_mk ⟨hr.1, hr.2.1⟩)
  · -- frames and ellipses
    rcases k with k | k
    · subst k
      refine close (frB x y p s t) ?_ ?_
      · unfold folC
        rw [if_neg (show ¬ nI 4 = 0 by decide), if_neg (show ¬ nI 4 = 1 by decide), if_neg (show ¬ nI 4 = 2 by decide), if_neg (show ¬ nI 4 = 3 by decide), if_pos (show nI 4 = 4 from rfl)]
        apply bd1_mk
        exact ed_mono (s_drawFrame cN pn ⟨p1, p2⟩ ⟨s1, s2⟩ ⟨t1, t2⟩) (fun R hR => ed_mk ⟨rfl, _, hR⟩)
      · unfold drwC
        rw [if_neg (show ¬ nI 4 = 0 by decide), if_neg (show ¬ nI 4 = 1 by decide), if_neg (show ¬ nI 4 = 2 by decide), if_neg (show ¬ nI 4 = 3 by decide), if_pos (show nI 4 = 4 from rfl)]
        apply bd2_mk
        exact ed_mono (s_frameM dM m3 rwy X Y ⟨p1, p2⟩ ⟨s1, s2⟩ ⟨t1, t2⟩) (fun r hr => ed_mk ⟨hr.1, hr.2.1⟩)
    · subst k
      obtain ⟨u, rfl⟩ : ∃ u : Nat, p = (u : Int) := ⟨p.toNat, by omega⟩
      obtain ⟨v, rfl⟩ : ∃ v : Nat, s = (v : Int) := ⟨s.toNat, by omega⟩
      obtain ⟨b, rfl⟩ : ∃ b : Nat, t = (b : Int) := ⟨t.toNat, by omega⟩
      refine close (elB x y u v b) ?_ ?_
      · unfold folC
        rw [if_neg (show ¬ nI 5 = 0 by decide), if_neg (show ¬ nI 5 = 1 by decide), if_neg (show ¬ nI 5 = 2 by decide), if_neg (show ¬ nI 5 = 3 by decide), if_neg (show ¬ nI 5 = 4 by decide), if_pos (show nI 5 = 5 from rfl), ← iZ_nI, ← iZ_nI, ← iZ_nI]
        apply bd1_mk
        exact ed_mono (s_drawEllipse cN pn (by omega) (by omega) (by omega)) (fun R hR => ed_mk ⟨rfl, _, hR⟩)
      · unfold drwC
        rw [if_neg (show ¬ nI 5 = 0 by decide), if_neg (show ¬ nI 5 = 1 by decide), if_neg (show ¬ nI 5 = 2 by decide), if_neg (show ¬ nI 5 = 3 by decide), if_neg (show ¬ nI 5 = 4 by decide), if_pos (show nI 5 = 5 from rfl), ← iZ_nI (n := u), ← iZ_nI (n := v), ← iZ_nI (n := b)]
        apply bd2_mk
        exact ed_mono (s_ellipseM dM m3 rwy X Y (by omega) (by omega) (by omega)) (fun r hr => ed_mk ⟨hr.1, hr.2.1⟩)
  · -- lines
    subst k
    refine close (liB x y p s t) ?_ ?_
    · unfold folC
      rw [if_neg (show ¬ nI 6 = 0 by decide), if_neg (show ¬ nI 6 = 1 by decide), if_neg (show ¬ nI 6 = 2 by decide), if_neg (show ¬ nI 6 = 3 by decide), if_neg (show ¬ nI 6 = 4 by decide), if_neg (show ¬ nI 6 = 5 by decide), if_pos (show nI 6 = 6 from rfl)]
      apply bd1_mk
      exact ed_mono (s_drawLine cN pn (by omega) (by omega) ⟨t1, t2⟩) (fun R hR => ed_mk ⟨rfl, _, hR⟩)
    · unfold drwC
      rw [if_neg (show ¬ nI 6 = 0 by decide), if_neg (show ¬ nI 6 = 1 by decide), if_neg (show ¬ nI 6 = 2 by decide), if_neg (show ¬ nI 6 = 3 by decide), if_neg (show ¬ nI 6 = 4 by decide), if_neg (show ¬ nI 6 = 5 by decide), if_pos (show nI 6 = 6 from rfl)]
      apply bd2_mk
      exact ed_mono (s_lineM dM m3 rwy X Y ⟨b1, b2⟩ ⟨b3, b4⟩ ⟨t1, t2⟩) (fun r hr => ed_mk ⟨hr.1, hr.2.1⟩)
  · -- pictures
    subst k
    obtain ⟨u, rfl⟩ : ∃ u : Nat, p = (u : Int) := ⟨p.toNat, by omega⟩
    rw [← iZ_nI] at r5
    refine close (picB x y u ((u + 7) / 8) (sz0 / ((u + 7) / 8)) B) ?_ ?_
    · unfold folC
      rw [if_neg (show ¬ nI 7 = 0 by decide), if_neg (show ¬ nI 7 = 1 by decide), if_neg (show ¬ nI 7 = 2 by decide), if_neg (show ¬ nI 7 = 3 by decide), if_neg (show ¬ nI 7 = 4 by decide), if_neg (show ¬ nI 7 = 5 by decide), if_neg (show ¬ nI 7 = 6 by decide)]
      apply bd1_mk
      exact ed_mono (s_drawPicture cN pn oN (by rw [a13]; exact r5) (by omega)) (fun R hR => ed_mk ⟨rfl, _, hR⟩)
    · unfold drwC
      rw [if_neg (show ¬ nI 7 = 0 by decide), if_neg (show ¬ nI 7 = 1 by decide), if_neg (show ¬ nI 7 = 2 by decide), if_neg (show ¬ nI 7 = 3 by decide), if_neg (show ¬ nI 7 = 4 by decide), if_neg (show ¬ nI 7 = 5 by decide), if_neg (show ¬ nI 7 = 6 by decide)]
      apply bd1_mk
      refine ed_mono (s_draftData oM m7) ?_
      rintro M11 ⟨f11, d11⟩
      rw [← iZ_nI]
      apply bd2_mk
      exact ed_mono (s_pictureM (DR_fr f11 (by decide +kernel) dM) ((f11.1 89 3 (by decide) (by decide)).trans m3) rwy X Y (by omega) d11 (by omega) zm) (fun r hr => ed_mk ⟨hr.1, hr.2.1⟩)
/-- the reference's codewords stay bytes -/
theorem drw_o {p0 x4 x5 x6 x7 x8 x9 x10 : Int32} {M : im_M} {r : Int32 × im_M} (q3 : ¬ x10 = 3) (h : drwC p0 x4 x5 x6 x7 x8 x9 x10 M = some r) : fr 174126290359957496813584552270376206336 [(71, 0), (89, 0), (89, 3), (89, 7), (89, 10), (89, 11), (89, 12), (89, 13), (89, 14), (89, 15), (89, 16), (96, 3), (96, 5), (96, 8), (96, 10), (108, 0), (108, 4), (108, 7), (108, 8), (108, 9), (108, 13), (108, 16), (108, 19)] M r.2 := by
  replace h : ed (drwC p0 x4 x5 x6 x7 x8 x9 x10 M) (fun x => x = r) := ⟨r, h, rfl⟩
  unfold drwC at h
  by_cases q0 : x10 = 0
  · replace h := ed_pos q0 h
    obtain ⟨Q11, hQ11, h⟩ := bd1_ed h
    obtain ⟨M11, e11, h⟩ := h
    replace h := hQ11 _ h
    obtain ⟨Q12, hQ12, h⟩ := bd2_ed h
    obtain ⟨⟨x12, M12⟩, e12, h⟩ := h
    replace h := hQ12 _ _ h
    exact fr_ret h (fr_tr (fr_mono (by decide) (by decide +kernel) (f_MDotRows_text_fr e12)) (fr_mono (by decide) (by decide +kernel) (f_M_draftData_fr e11)))
  replace h := ed_neg q0 h
  by_cases q1 : x10 = 1
  · replace h := ed_pos q1 h
    obtain ⟨Q13, hQ13, h⟩ := bd2_ed h
    obtain ⟨⟨x13, M13⟩, e13, h⟩ := h
    replace h := hQ13 _ _ h
    by_cases q177 : x13 = 0
    · replace h := ed_pos q177 h
      exact fr_ret h (fr_mono (by decide) (by decide +kernel) (f_M_draftRow_fr e13))
    · replace h := ed_neg q177 h
      obtain ⟨Q14, hQ14, h⟩ := bd2_ed h
      obtain ⟨⟨x14, M14⟩, e14, h⟩ := h
      replace h := hQ14 _ _ h
      exact fr_ret h (fr_tr (fr_mono (by decide) (by decide +kernel) (f_MDotRows_bars_fr e14)) (fr_mono (by decide) (by decide +kernel) (f_M_draftRow_fr e13)))
  replace h := ed_neg q1 h
  by_cases q2 : x10 = 2
  · replace h := ed_pos q2 h
    obtain ⟨Q15, hQ15, h⟩ := bd1_ed h
    obtain ⟨M15, e15, h⟩ := h
    replace h := hQ15 _ h
    obtain ⟨Q16, hQ16, h⟩ := bd2_ed h
    obtain ⟨⟨x16, M16⟩, e16, h⟩ := h
    replace h := hQ16 _ _ h
    exact fr_ret h (fr_tr (fr_mono (by decide) (by decide +kernel) (f_MDotRows_bars_fr e16)) (fr_mono (by decide) (by decide +kernel) (f_M_draftThirteen_fr e15)))
  replace h := ed_neg q2 h
  replace h := ed_neg q3 h
  by_cases q4 : x10 = 4
  · replace h := ed_pos q4 h
    obtain ⟨Q19, hQ19, h⟩ := bd2_ed h
    obtain ⟨⟨x19, M19⟩, e19, h⟩ := h
    replace h := hQ19 _ _ h
    exact fr_ret h (fr_mono (by decide) (by decide +kernel) (f_MDotRows_frame_fr e19))
  replace h := ed_neg q4 h
  by_cases q5 : x10 = 5
  · replace h := ed_pos q5 h
    obtain ⟨Q20, hQ20, h⟩ := bd2_ed h
    obtain ⟨⟨x20, M20⟩, e20, h⟩ := h
    replace h := hQ20 _ _ h
    exact fr_ret h (fr_mono (by decide) (by decide +kernel) (f_MDotRows_ellipse_fr e20))
  replace h := ed_neg q5 h
  by_cases q6 : x10 = 6
  · replace h := ed_pos q6 h
    obtain ⟨Q21, hQ21, h⟩ := bd2_ed h
    obtain ⟨⟨x21, M21⟩, e21, h⟩ := h
    replace h := hQ21 _ _ h
    exact fr_ret h (fr_mono (by decide) (by decide +kernel) (f_MDotRows_line_fr e21))
  replace h := ed_neg q6 h
  obtain ⟨Q22, hQ22, h⟩ := bd1_ed h
  obtain ⟨M22, e22, h⟩ := h
  replace h := hQ22 _ h
  obtain ⟨Q23, hQ23, h⟩ := bd2_ed h
  obtain ⟨⟨x23, M23⟩, e23, h⟩ := h
  replace h := hQ23 _ _ h
  exact fr_ret h (fr_tr (fr_mono (by decide) (by decide +kernel) (f_MDotRows_picture_fr e23)) (fr_mono (by decide) (by decide +kernel) (f_M_draftData_fr e22)))
theorem draw_b8 {Mc Mr : im_M} {a n : Nat} {r : Int32 × im_M} (h : ORD Mc Mr a n) (hp : PWL Mc) (ht : TBR Mr) (hb : B8 (im_i Mr 120)) (e : f_M_draw (nI a) Mr = some r) : B8 (im_i r.2 120) := by
  obtain ⟨sz0, B, ocl, om, e8⟩ := ORD_B h
  obtain ⟨h1, h2, h3, h4, hOG, _⟩ := h
  obtain ⟨kd, qd, sz, x, y, p, s, t, ⟨r0, r1, r2, r3, r5, r6, r7, r8⟩, rwy, ⟨x1, x2, y1, y2, q4, s200⟩, kinds⟩ := hOG
  replace r0 : im_i Mc 13 (14 * a + 0) = nI kd := r0
  replace r6 : im_i Mc 13 (14 * a + 6) = iZ s := r6
  replace r7 : im_i Mc 13 (14 * a + 7) = iZ t := r7
  replace rwy : im_i Mc 13 (14 * a + 4) = 0 ∨ im_i Mc 13 (14 * a + 4) = 2 := rwy
  obtain ⟨Mh, hM, fM, m3, m7⟩ := drw_un (M := Mr) h3 h2 h1 (show im_i Mr 87 (9 * a + 4) = im_i Mc 13 (14 * a + 4) by rw [h4 4 (by omega)]) rwy
  rw [h4 0 (by omega), r0] at hM
  have oM := OM_fr fM (by decide +kernel) om
  have b0 : B8 (im_i Mh 120) := by rw [fr_c fM 120 (by decide) (by decide)]; exact hb
  rw [hM] at e
  have oth : kd < 1000 → kd ≠ 3 → B8 (im_i r.2 120) := fun k1 k3 => by
    have f := drw_o (fun z => k3 (by rw [show (3 : Int32) = nI 3 from rfl, nIe (by omega) (by omega)] at z; exact z)) e
    rw [fr_c f 120 (by decide) (by decide)]
    exact b0
  rcases kinds with ⟨k, p0, p3, s1, s10, t1, t10⟩ | ⟨k, p1, p50, s1, s2, tt, z1⟩ | ⟨k, p1, p50, s1, s2, tt, z12, hg⟩ | ⟨k, p1, p50, s0, s3, t1, t7, z1⟩ | ⟨k, p1, p2, s1, s2, t1, t2, z0⟩ | ⟨k, p1, p2, s1, s2, t1, t2, z0, b1, b2, b3, b4⟩ | ⟨k, p1, p2, s0, tt, z1, z2, zm⟩
  · exact oth (by omega) (by omega)
  · exact oth (by omega) (by omega)
  · exact oth (by omega) (by omega)
  · subst k
    obtain ⟨l, rfl⟩ : ∃ l : Nat, s = (l : Int) := ⟨s.toNat, by omega⟩
    obtain ⟨v, G, Bs, hv, hmc, hmr, hgb⟩ := two_symbol (mz := t) ocl hp oM (TBR_fr fM (by decide +kernel) ht) (show l < 4 by omega) ⟨t1, t7⟩ (by rw [fM.1 87 _ (by decide) (by simp), h4 6 (by omega), r6, iZ_nI]) (by rw [fM.1 87 _ (by decide) (by simp), h4 7 (by omega), r7]) m7
    obtain ⟨⟨x17, M17⟩, hm2, e17, d17, b17⟩ := hmr
    replace b17 : B8 (im_i M17 120) := b17 b0
    unfold drwC at e
    rw [if_neg (show ¬ nI 3 = 0 by decide), if_neg (show ¬ nI 3 = 1 by decide), if_neg (show ¬ nI 3 = 2 by decide), if_pos (show nI 3 = 3 from rfl), hm2, bd2_s] at e
    replace e : ed _ (fun x => x = r) := ⟨r, e, rfl⟩
    obtain ⟨Q18, hQ18, e⟩ := bd2_ed e
    obtain ⟨⟨x18, M18⟩, e18, e⟩ := e
    replace e := hQ18 _ _ e
    have f : fr 174126290359957496813584552270376206336 [(71, 0), (89, 0), (89, 3), (89, 7), (89, 10), (89, 11), (89, 12), (89, 13), (89, 14), (89, 15), (89, 16), (96, 3), (96, 5), (96, 8), (96, 10), (108, 0), (108, 4), (108, 7), (108, 8), (108, 9), (108, 13), (108, 16), (108, 19)] M17 r.2 := fr_ret e (fr_mono (by decide) (by decide +kernel) (f_MDotRows_square_fr e18))
    rw [fr_c f 120 (by decide) (by decide)]
    exact b17
  · exact oth (by omega) (by omega)
  · exact oth (by omega) (by omega)
  · exact oth (by omega) (by omega)
