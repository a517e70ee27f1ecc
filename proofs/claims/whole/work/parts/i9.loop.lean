/-! THE WHOLE TAPE READ, BOTH SIDES -/
theorem skB_hd : ∀ {S : List Int32} {h : Int32} {T : List Int32}, skB S = h :: T → h < 0 ∨ 32 < h := by
  intro S
  induction S with
  | nil => intro h T e; cases e
  | cons x S ih =>
    intro h T e
    have e : (if ¬ x < 0 ∧ ¬ 32 < x then skB S else x :: S) = h :: T := e
    by_cases c : ¬ x < 0 ∧ ¬ 32 < x
    · rw [if_pos c] at e
      exact ih e
    · rw [if_neg c] at e
      cases e
      by_cases g : x < 0
      · exact Or.inl g
      · exact Or.inr (Classical.byContradiction fun z => c ⟨g, z⟩)
theorem rCmd_k {N R : im_M} (h : rCmd N = some R) : im_i R 71 2 = im_i N 71 2 ∧ im_i R 71 12 = im_i N 71 12 := by
  unfold rCmd at h
  cases e1 : f_MScriptRows_next N with
  | none => rw [e1] at h; cases h
  | some r1 =>
    obtain ⟨x11, M11⟩ := r1
    rw [e1, bd2_s] at h
    cases e2 : f_MScriptRows_test x11 M11 with
    | none => rw [e2] at h; cases h
    | some r2 =>
      obtain ⟨x12, M12⟩ := r2
      rw [e2, bd2_s] at h
      have f1 := f_MScriptRows_next_fr e1
      have f2 := f_MScriptRows_test_fr e2
      have a2 : im_i M12 71 2 = im_i N 71 2 := (f2.1 71 2 (by decide +kernel) (by decide)).trans (f1.1 71 2 (by decide +kernel) (by decide))
      have a12 : im_i M12 71 12 = im_i N 71 12 := (f2.1 71 12 (by decide +kernel) (by decide)).trans (f1.1 71 12 (by decide +kernel) (by decide))
      by_cases c : x12 = 0
      · rw [if_neg (show ¬ ¬ im_i (im_setI M12 71 13 x12) 71 13 = 0 from fun z => z c)] at h
        cases e3 : f_MScriptRows_obey x11 (im_setI M12 71 13 x12) with
        | none => rw [e3] at h; cases h
        | some M13 =>
          rw [e3, bd1_s] at h
          cases h
          have f3 := f_MScriptRows_obey_fr e3
          exact ⟨(f3.1 71 2 (by decide +kernel) (by decide)).trans a2, (f3.1 71 12 (by decide +kernel) (by decide)).trans a12⟩
      · rw [if_pos (show ¬ im_i (im_setI M12 71 13 x12) 71 13 = 0 from c)] at h
        cases h
        exact ⟨a2, a12⟩
theorem step_eq {M : im_M} : f_MScriptRows_step M = bd1 (lp (uc1 (f_MScriptRows_step_L0)) M) fun (M7 : im_M) => if ¬ (im_i M7 71 8) = 0 then bd2 (f_MScriptRows_next (im_setI M7 71 12 ((if ¬ (im_i M7 71 9) = 0 then (im_i M7 71 10) else ((im_i M7 71 2) - (im_i M7 71 8))) : Int32))) fun (x9 : Int32) (M9 : im_M) => bd1 (if x9 = 94 then rCmd (im_setI M9 71 11 ((im_i M9 71 11) + 1)) else some (im_setI M9 71 13 1)) fun (M14 : im_M) => if ¬ (im_i (im_setI M14 71 14 ((if (im_i M14 71 13) ≤ 0 then (-1) else (im_i M14 71 12)) : Int32)) 71 13) = 0 then some (0, (im_setI M14 71 14 ((if (im_i M14 71 13) ≤ 0 then (-1) else (im_i M14 71 12)) : Int32))) else some (1, (im_setI M14 71 14 ((if (im_i M14 71 13) ≤ 0 then (-1) else (im_i M14 71 12)) : Int32))) else some (0, (im_setI (im_setI M7 71 13 ((if (im_i M7 71 18) = 0 then 0 else 11) : Int32)) 71 14 ((if (im_i (im_setI M7 71 13 ((if (im_i M7 71 18) = 0 then 0 else 11) : Int32)) 71 18) = 0 then (-1) else (im_i (im_setI M7 71 13 ((if (im_i M7 71 18) = 0 then 0 else 11) : Int32)) 71 2)) : Int32))) := rfl
/-- the reference's loop, ended where a step says so -/
noncomputable def rStep (M : im_M) : Option (im_M ⊕ im_M) := bd2 (f_MScriptRows_step M) fun (x : Int32) (M' : im_M) => if x = 0 then some (.inr M') else some (.inl M')
theorem lp_read : ∀ {n : Nat} {M R : im_M}, lpn rStep n M = some R → ∀ x : Int32, ¬ x = 0 → lp (uc2 f_MScriptRows_read_L79) (x, M) = some R := by
  intro n
  induction n with
  | zero => intro M R h; cases h
  | succ n ih =>
    intro M R h x hx
    unfold lpn rStep at h
    cases e : f_MScriptRows_step M with
    | none => rw [e] at h; cases h
    | some r =>
      obtain ⟨x8, M8⟩ := r
      rw [e, bd2_s] at h
      have b1 : uc2 f_MScriptRows_read_L79 (x, M) = some (.inl (x8, M8)) := by
        show f_MScriptRows_read_L79 x M = _
        unfold f_MScriptRows_read_L79
        rw [if_neg hx, e, bd2_s]
      by_cases c : x8 = 0
      · rw [if_pos c] at h
        have h : some M8 = some R := h
        cases h
        refine lp_l b1 (lp_r ?_)
        show f_MScriptRows_read_L79 x8 _ = _
        unfold f_MScriptRows_read_L79
        rw [if_pos c]
      · rw [if_neg c] at h
        exact lp_l b1 (ih h x8 c)
/-- how a reading ends -/
def FIN (x : Int32) (Mc Mr : im_M) : Prop := im_i Mr 71 13 = x ∧ FL x ∧ VV Mc Mr ∧ (¬ x = 0 → im_i Mr 71 14 = im_i Mc 15 7) ∧ (x = 0 → im_i Mr 71 14 = -1 ∧ ∃ LL A, STg Mc Mr LL A)
/-- before each turn -/
def LI (sz : Nat) (k : Nat) (s1 : Int32 × im_M) (s2 : im_M) : Prop := ∃ (b : Bool) (d i kc : Nat) (Sc Sr : List Int32), i + k = 6000 ∧ s1.1 = nI i ∧ ST s1.2 s2 b ∧ (b = false → d = 0) ∧ CS s1.2 d Sc ∧ MS s2 Sr ∧ skM Sr = skM Sc ∧ im_i s2 71 9 = nI (cnE Sr) ∧ (im_i s1.2 15 9 = nI kc ∧ im_i s2 71 11 = nI kc ∧ kc < 2000 ∧ i + d ≤ 2 * kc) ∧ (0 < d → im_i s2 71 10 = im_i s1.2 15 7) ∧ im_i s1.2 1 1 = nI sz ∧ im_i s2 71 2 = nI sz ∧ sz ≤ 4096
def FN (u1 : im_M ⊕ (Int32 × im_M)) (M2 : im_M) : Prop := ∃ x M1, u1 = .inr (x, M1) ∧ FIN x M1 M2
theorem two_turn {sz k : Nat} {s1 : Int32 × im_M} {s2 : im_M} (h : LI sz k s1 s2) : ed (uc2 f_HSetter_followAll_L32 s1) (tw (LI sz) FN k s2 (rStep s2)) := by
  obtain ⟨x3, M4⟩ := s1
  obtain ⟨b, d, i, kc, Sc, Sr, hi, e1, q, hbd, hc, hm, hsk, h9, ⟨h15, h11, hkc, hid⟩, hpl, h1, h2, hsz⟩ := h
  replace e1 : x3 = nI i := e1
  replace q : ST M4 s2 b := q
  replace hc : CS M4 d Sc := hc
  replace h15 : im_i M4 15 9 = nI kc := h15
  replace hpl : 0 < d → im_i s2 71 10 = im_i M4 15 7 := hpl
  replace h1 : im_i M4 1 1 = nI sz := h1
  subst e1
  have d4 := hc.1
  show ed (f_HSetter_followAll_L32 (nI i) M4) _
  unfold f_HSetter_followAll_L32
  have t6 : ((6000 : Int32) ≤ nI i) = (6000 ≤ i) := nIl (x := 6000) (by omega) (by omega)
  simp only [t6]
  rw [if_neg (by omega)]
  obtain ⟨M5, e5, c5, f5⟩ := s_blanks hc
  rw [e5, bd1_s, s_nextC c5, bd1_s]
  have d0 : (nI d = 0) = (d = 0) := nIe (c := 0) (by omega) (by omega)
  -- where the class stands
  have hM8 : ∃ M8, (if ¬ (im_i M5 1 6) = 0 then some M5 else gd (inb 0 5) <| some (im_setI M5 15 7 (im_i M5 8 (Int32.toNatClampNeg 0)))) = some M8 ∧ fr 0 [(15, 7)] M5 M8 ∧ (d = 0 → ∃ a : Nat, a + (skB Sc).length = sz ∧ im_i M8 15 7 = nI a) ∧ (0 < d → M8 = M5) := by
    rw [c5.2.1]
    simp only [d0]
    by_cases z : d = 0
    · subst z
      obtain ⟨a, m, y1, y2, y3, y4⟩ := c5.2.2
      rw [if_neg (fun y => y rfl), gd_pos (by decide)]
      refine ⟨_, rfl, fr_F (by decide) fr_refl, fun _ => ⟨a, ?_, y1⟩, fun y => absurd y (by omega)⟩
      rw [f5.1 1 1 (by decide) (by decide), h1] at y2
      have := (nI_eq (by omega) (by omega)).mp y2
      rw [y4, bl_len]
      omega
    · rw [if_pos z]
      exact ⟨M5, rfl, fr_refl, fun y => absurd y z, fun _ => rfl⟩
  obtain ⟨M8, e8, f8, p0, p1⟩ := hM8
  rw [e8, bd1_s]
  have f48 : fr (2 ^ 8) [(15, 7)] M4 M8 := fr_tr (fr_mono (by decide) (by decide) f8) (fr_mono (by decide) (by decide) f5)
  have c8 : CS M8 d (skB Sc) := CS_fr f8 (by decide +kernel) c5
  have q8 : ST M8 s2 b := ST_fr (fr_mono (by decide) (by decide) f48) fr_refl q
  have a15 : im_i M8 15 9 = nI kc := (f48.1 15 9 (by decide) (by decide)).trans h15
  have a1 : im_i M8 1 1 = nI sz := (f48.1 1 1 (by decide) (by decide)).trans h1
  have sk2 : skM Sr = skM (skB Sc) := by rw [hsk, skM_skB]
  simp only [jn0, jn1]
  obtain ⟨M7, e7, m7, n7, f7⟩ := s_skip hm h9
  have b18 : im_i M7 71 18 = insI b := (f7.1 71 18 (by decide) (by decide)).trans q.2.1
  have b2 : im_i M7 71 2 = nI sz := (f7.1 71 2 (by decide) (by decide)).trans h2
  rcases CS_head c8 with ⟨hS, hd⟩ | ⟨T', e, hd, hS, hl⟩ | ⟨v, T', hv, hS⟩
  · -- the end of the tape
    rw [hS] at sk2 ⊢
    subst hd
    have m0 : MS M7 [] := by rw [sk2] at m7; exact m7
    have l8 : im_i M7 71 8 = 0 := m0.1
    rw [show nxB ([] : List Int32) = -1 from rfl, if_neg (fun z => z rfl), c8.2.1, if_neg (fun z => z rfl), q8.1]
    have er : rStep s2 = some (.inr (im_setI (im_setI M7 71 13 (if b = true then 11 else 0)) 71 14 (if b = true then nI sz else -1))) := by
      unfold rStep
      rw [step_eq, e7, bd1_s, l8, if_neg (fun z => z rfl), bd2_s, if_pos rfl]
      have g18 : ∀ v, im_i (im_setI M7 71 13 v) 71 18 = insI b := fun v => b18
      have g2 : ∀ v, im_i (im_setI M7 71 13 v) 71 2 = nI sz := fun v => b2
      rw [b18, g18, g2]
      cases b with
      | true => rfl
      | false => rfl
    have fR : ∀ u v, fr 0 [(71, 8), (71, 9), (71, 13), (71, 14)] s2 (im_setI (im_setI M7 71 13 u) 71 14 v) := fun u v => fr_F (by decide) (fr_F (by decide) (fr_mono (by decide) (by decide) f7))
    obtain ⟨a, ha, pa⟩ := p0 rfl
    rw [hS] at ha
    replace ha : a + 0 = sz := ha
    cases b with
    | true =>
      rw [show insI true = 1 from rfl, if_neg (show ¬ (1 : Int32) = 0 by decide)]
      refine two_r er ⟨11, M8, rfl, rfl, Or.inr (by decide), VV_fr (A1 := 0) (F1 := []) fr_refl (fR _ _) (by decide +kernel) (by decide +kernel) q8.2.2.1, fun _ => ?_, fun z => absurd z (by decide)⟩
      show nI sz = im_i M8 15 7
      rw [pa]
      congr 1
      omega
    | false =>
      rw [show insI false = 0 from rfl, if_pos rfl]
      obtain ⟨LL, A, hg⟩ := q8.2.2.2.2.1
      exact two_r er ⟨0, M8, rfl, rfl, Or.inl rfl, VV_fr (A1 := 0) (F1 := []) fr_refl (fR _ _) (by decide +kernel) (by decide +kernel) q8.2.2.1, fun z => absurd rfl z, fun _ => ⟨rfl, LL, A, STg_fr (A1 := 0) (F1 := []) fr_refl (fR _ _) (by decide +kernel) (by decide +kernel) hg⟩⟩
  · -- a form is left
    rw [hS] at sk2 ⊢
    have hd0 : 0 < d := by omega
    have nd : ¬ im_i M8 1 6 = 0 := by rw [c8.2.1, d0]; omega
    rw [show nxB ((-1 : Int32) :: T') = -1 from rfl, if_neg (fun z => z rfl), if_pos nd, if_neg (fun z => z rfl), c8.2.1]
    have ed1 : nI d - 1 = nI e := by rw [nI_m1 (by omega)]; congr 1; omega
    rw [ed1]
    have f9 : fr 0 [(1, 6)] M8 (im_setI M8 1 6 (nI e)) := fr_F (by decide) fr_refl
    have bt : b = true := by
      cases b with
      | true => rfl
      | false => have := hbd rfl; omega
    refine two_o (k - 1) (by omega) ⟨b, e, i + 1, kc, T', Sr, by omega, nI_add i 1, ST_fr (fr_mono (by decide) (by decide) f9) fr_refl q8, (fun z => by rw [bt] at z; cases z), ⟨by omega, rfl, LV_c (M := M8) (M' := im_setI M8 1 6 (nI e)) rfl rfl rfl rfl e T' (fun j _ => ⟨rfl, rfl⟩) hl⟩, hm, ?_, h9, ⟨a15, h11, hkc, by omega⟩, fun _ => ?_, a1, h2, hsz⟩
    · rw [sk2]
      show (if (32 : Int32) < -1 then _ else skM T') = skM T'
      rw [if_neg (by decide)]
    · show im_i s2 71 10 = im_i M8 15 7
      rw [hpl hd0, p1 hd0, f5.1 15 7 (by decide) (by decide)]
  · -- a command
    have v32 : 32 < v := by
      rcases skB_hd hS with z | z
      · have : (nI v < 0) = (v < 0) := nIlt (c := 0) (by omega) (by omega)
        rw [this] at z
        omega
      · have : ((32 : Int32) < nI v) = (32 < v) := nIlt (x := 32) (by omega) (by omega)
        rw [this] at z
        exact z
    have n32 : (32 : Int32) < nI v := by
      have : ((32 : Int32) < nI v) = (32 < v) := nIlt (x := 32) (by omega) (by omega)
      rw [this]
      exact v32
    have skv : skM (nI v :: T') = nI v :: T' := by
      show (if 32 < nI v then _ else _) = _
      rw [if_pos n32]
    rw [hS, skv] at sk2
    rw [sk2] at m7 n7
    have cn : cnE (nI v :: T') = d := by rw [← hS]; exact (LV_cn c8.2.2).1
    rw [cn] at n7
    have nv : ¬ nI v = -1 := nI_nm1 (by omega)
    rw [hS, show nxB (nI v :: T') = nI v from rfl, if_pos nv, if_pos nv]
    have l8 : ¬ im_i M7 71 8 = 0 := by
      rw [m7.1]
      exact nI_z (by show 0 < T'.length + 1; omega) (by have := m7.2.1; omega)
    -- the place
    have hat : (if ¬ (im_i M7 71 9) = 0 then (im_i M7 71 10) else ((im_i M7 71 2) - (im_i M7 71 8))) = im_i M8 15 7 := by
      rw [n7]
      simp only [d0]
      by_cases z : d = 0
      · obtain ⟨a, ha, pa⟩ := p0 z
        rw [hS] at ha
        rw [if_neg (fun y => y z), b2, m7.1, pa, nI_sb (by omega)]
        congr 1
        omega
      · rw [if_pos z, f7.1 71 10 (by decide) (by decide), hpl (by omega), p1 (by omega), f5.1 15 7 (by decide) (by decide)]
    generalize hN7 : im_setI M7 71 12 (im_i M8 15 7) = N7
    have f12 : fr 0 [(71, 12)] M7 N7 := by rw [← hN7]; exact fr_F (by decide) fr_refl
    have v12 : im_i N7 71 12 = im_i M8 15 7 := by rw [← hN7]; rfl
    have mN : MS N7 (nI v :: T') := MS_fr f12 (by decide +kernel) m7
    obtain ⟨⟨x9, M9⟩, e9, g9, m9, f9⟩ := s_nextM mN
    replace g9 : x9 = nI v := g9
    replace m9 : MS M9 T' := m9
    replace f9 : fr 0 [(71, 8)] N7 M9 := f9
    subst g9
    have fall : fr 0 [(71, 8), (71, 9), (71, 12)] s2 M9 := fr_tr (fr_mono (by decide) (by decide) f9) (fr_tr (fr_mono (by decide) (by decide) f12) (fr_mono (by decide) (by decide) f7))
    have w12 : im_i M9 71 12 = im_i M8 15 7 := (f9.1 71 12 (by decide) (by decide)).trans v12
    have w9 : im_i M9 71 9 = nI d := ((f9.1 71 9 (by decide) (by decide)).trans (f12.1 71 9 (by decide) (by decide))).trans n7
    have w11 : im_i M9 71 11 = nI kc := (fall.1 71 11 (by decide) (by decide)).trans h11
    have w2 : im_i M9 71 2 = nI sz := (fall.1 71 2 (by decide) (by decide)).trans h2
    have w10 : im_i M9 71 10 = im_i s2 71 10 := fall.1 71 10 (by decide) (by decide)
    have q9 : ST M8 M9 b := ST_fr fr_refl (fr_mono (by decide) (by decide) fall) q8
    have er : rStep s2 = bd2 (bd1 (if nI v = 94 then rCmd (im_setI M9 71 11 ((im_i M9 71 11) + 1)) else some (im_setI M9 71 13 1)) fun (M14 : im_M) => if ¬ (im_i (im_setI M14 71 14 ((if (im_i M14 71 13) ≤ 0 then (-1) else (im_i M14 71 12)) : Int32)) 71 13) = 0 then some ((0 : Int32), (im_setI M14 71 14 ((if (im_i M14 71 13) ≤ 0 then (-1) else (im_i M14 71 12)) : Int32))) else some (1, (im_setI M14 71 14 ((if (im_i M14 71 13) ≤ 0 then (-1) else (im_i M14 71 12)) : Int32)))) (fun (x : Int32) (M' : im_M) => if x = 0 then some (.inr M') else some (.inl M')) := by
      unfold rStep
      rw [step_eq, e7, bd1_s, if_pos l8, hat, hN7, e9, bd2_s]
    by_cases v94 : nI v = 94
    · rw [if_pos v94]
      rw [if_pos v94] at er
      obtain ⟨M17, e17, c17, f17⟩ := s_pass (by rw [hS] at c8; exact c8) nv
      have q17 : ST M17 M9 b := ST_fr (fr_mono (by decide) (by decide) f17) fr_refl q9
      have k11 : im_i M9 71 11 + 1 = nI (kc + 1) := by rw [w11]; exact nI_add _ 1
      rw [k11] at er
      have fk : fr 0 [(71, 11)] M9 (im_setI M9 71 11 (nI (kc + 1))) := fr_F (by decide) fr_refl
      obtain ⟨⟨x18, M18⟩, e18, R2, e2, r13, rF, rV, rok⟩ := two_follow (N := im_setI M9 71 11 (nI (kc + 1))) (ST_fr fr_refl (fr_mono (by decide) (by decide) fk) q17) hbd c17 (MS_fr fk (by decide +kernel) m9) w9 ((f17.1 15 9 (by decide) (by decide)).trans a15) rfl hkc
      replace r13 : im_i R2 71 13 = x18 := r13
      replace rF : FL x18 := rF
      replace rV : VV M18 R2 := rV
      obtain ⟨y2, y12⟩ := rCmd_k e2
      replace y2 : im_i R2 71 2 = im_i M9 71 2 := y2
      replace y12 : im_i R2 71 12 = im_i M9 71 12 := y12
      have ff := f_HSetter_follow_fr e18
      have u7 : im_i M18 15 7 = im_i M8 15 7 := (ff.1 15 7 (by decide +kernel) (by decide)).trans (f17.1 15 7 (by decide) (by decide))
      have u1 : im_i M18 1 1 = nI sz := ((ff.1 1 1 (by decide +kernel) (by decide)).trans (f17.1 1 1 (by decide) (by decide))).trans a1
      rw [e17, bd1_s, e18, bd2_s]
      rw [e2, bd1_s] at er
      have s13 : ∀ z, im_i (im_setI R2 71 14 z) 71 13 = x18 := fun z => r13
      rw [s13, r13, y12, w12] at er
      by_cases xz : x18 = 0
      · obtain ⟨o15, o11, okc, b', d', T2, oS, od, ob, oc, om, o9, o10⟩ := rok xz
        replace o15 : im_i M18 15 9 = nI (kc + 1) := o15
        replace oc : CS M18 d' T2 := oc
        replace oS : ST M18 R2 b' := oS
        rw [if_pos xz]
        rw [if_neg (fun z => z xz), bd2_s, if_neg (show ¬ (1 : Int32) = 0 by decide)] at er
        have f14 : ∀ z, fr 0 [(71, 14)] R2 (im_setI R2 71 14 z) := fun z => fr_F (by decide) fr_refl
        refine two_l (k - 1) (by omega) er ⟨b', d', i + 1, kc + 1, T2, T2, by omega, nI_add i 1, ST_fr fr_refl (fr_mono (by decide) (by decide) (f14 _)) oS, ob, oc, MS_fr (f14 _) (by decide +kernel) om, rfl, ?_, ⟨o15, o11, okc, by omega⟩, fun hd' => ?_, u1, ?_, hsz⟩
        · show im_i R2 71 9 = _
          rw [o9, (LV_cn oc.2.2).1]
        · show im_i R2 71 10 = im_i M18 15 7
          rw [o10, u7]
          by_cases z : d = 0 ∧ d' = 1
          · rw [if_pos z]
            show im_i M9 71 12 = _
            exact w12
          · rw [if_neg z]
            show im_i M9 71 10 = _
            have dp : 0 < d := by omega
            rw [w10, hpl dp, p1 dp, f5.1 15 7 (by decide) (by decide)]
        · show im_i R2 71 2 = _
          rw [y2, w2]
      · rw [if_neg xz]
        rw [if_pos xz, bd2_s, if_pos rfl] at er
        have xp : ¬ x18 ≤ 0 := by
          rcases rF with z | z
          · exact absurd z xz
          · exact z
        rw [if_neg xp] at er
        refine two_r er ⟨x18, M18, rfl, r13, Or.inr xp, VV_fr (A1 := 0) (F1 := []) (A2 := 0) (F2 := [(71, 14)]) fr_refl (fr_F (by decide) fr_refl) (by decide +kernel) (by decide +kernel) rV, fun _ => ?_, fun z => absurd z xz⟩
        show im_i M8 15 7 = im_i M18 15 7
        rw [u7]
    · rw [if_neg v94]
      rw [if_neg v94, bd1_s] at er
      have t13 : ∀ z, im_i (im_setI (im_setI M9 71 13 1) 71 14 z) 71 13 = 1 := fun _ => rfl
      rw [t13, if_pos (show ¬ (1 : Int32) = 0 by decide), bd2_s, if_pos rfl] at er
      have t2 : (if im_i (im_setI M9 71 13 1) 71 13 ≤ 0 then (-1 : Int32) else im_i (im_setI M9 71 13 1) 71 12) = im_i M8 15 7 := by
        show (if (1 : Int32) ≤ 0 then (-1 : Int32) else im_i M9 71 12) = _
        rw [if_neg (by decide), w12]
      rw [t2] at er
      exact two_r er ⟨1, M8, rfl, rfl, Or.inr (by decide), VV_fr (A1 := 0) (F1 := []) (A2 := 0) (F2 := [(71, 13), (71, 14)]) fr_refl (fr_F (by decide) (fr_F (by decide) fr_refl)) (by decide +kernel) (by decide +kernel) q9.2.2.1, fun _ => rfl, fun z => absurd z (by decide)⟩
theorem two_loop {sz : Nat} {Mc Mr : im_M} (h : LI sz 6000 (0, Mc) Mr) : ed (bs1 (lp (uc2 (f_HSetter_followAll_L32)) (0, Mc)) (fun (M22 : im_M) => some ((10 : Int32), M22)) (fun t => some t)) (fun r1 => ed (lp (uc2 f_MScriptRows_read_L79) (1, Mr)) (fun M2 => FIN r1.1 r1.2 M2)) := by
  obtain ⟨u1, e1, M2, e2, x, M1, rfl, hF⟩ := lp_two (b1 := uc2 f_HSetter_followAll_L32) (b2 := rStep) (LI sz) (Q := FN) (fun k s1 s2 hI => two_turn hI) h
  rw [e1]
  obtain ⟨n, hn⟩ := lp_n e2
  exact ed_mk ⟨M2, lp_read hn 1 (by decide), hF⟩
