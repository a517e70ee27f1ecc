/-! DATA AND BLANKS, BOTH SIDES -/
def DTA (Mc Mr : im_M) (n : Nat) : Prop := n ≤ 200 ∧ im_i Mc 1 11 = nI n ∧ im_i Mr 71 17 = nI n ∧ ∀ j, j < n → im_i Mr 79 j = im_i Mc 10 j &&& 255 ∧ isB (im_i Mc 10 j)
def NDd (Mc Mr : im_M) (r1 r2 : Int32 × im_M) (d : Nat) : Prop := fr (2 ^ 8 ||| 2 ^ 10) [(1, 11)] Mc r1.2 ∧ fr (2 ^ 79) [(71, 8), (71, 17)] Mr r2.2 ∧ ((r1.1 = 1 ∧ r2.1 = 0 ∧ (∃ T, CS r1.2 d T ∧ MS r2.2 T) ∧ ∃ n, DTA r1.2 r2.2 n) ∨ (r1.1 = 0 ∧ r2.1 = 6))
def dtI (Mc Mr : im_M) (d : Nat) (k : Nat) (s1 : Int32 × im_M) (s2 : im_M) : Prop := ∃ n T, n + k = 201 ∧ s1.1 = nI n ∧ CS s1.2 d T ∧ MS s2 T ∧ DTA s1.2 s2 n ∧ fr (2 ^ 8 ||| 2 ^ 10) [(1, 11)] Mc s1.2 ∧ fr (2 ^ 79) [(71, 8), (71, 17)] Mr s2
theorem two_data {Mc Mr : im_M} {d : Nat} {S : List Int32} (hc : CS Mc d S) (hm : MS Mr S) : ed (f_HTape_takeData Mc) (fun r1 => ed (f_MScriptRows_takeData Mr) (fun r2 => NDd Mc Mr r1 r2 d)) := by
  unfold f_HTape_takeData f_MScriptRows_takeData
  rw [bs1_sum, bs1_sum]
  have L := lp_two (b1 := uc2 f_HTape_takeData_L7) (b2 := uc1 f_MScriptRows_takeData_L5) (dtI Mc Mr d) (Q := fun u1 u2 => NDd Mc Mr (sumR u1 1) (sumR u2 0) d) ?_ (k := 201) (s1 := (0, im_setI Mc 1 11 0)) (s2 := im_setI Mr 71 17 0) ⟨0, S, by omega, rfl, CS_fr (A := 0) (F := [(1, 11)]) (fr_F (by decide) fr_refl) (by decide +kernel) hc, MS_fr (A := 0) (F := [(71, 17)]) (fr_F (by decide) fr_refl) (by decide +kernel) hm, ⟨by omega, rfl, rfl, fun j hj => absurd hj (by omega)⟩, fr_F (by decide) fr_refl, fr_F (by decide) fr_refl⟩
  · obtain ⟨r1, e1, r2, e2, h⟩ := L
    rw [e1, e2, bd1_s, bd1_s]
    exact ed_mk (ed_mk h)
  · rintro k ⟨x2, M3⟩ M2 ⟨n, T, hk, e1, q1, q2, hD, f1, f2⟩
    replace e1 : x2 = nI n := e1
    replace q1 : CS M3 d T := q1
    replace hD : DTA M3 M2 n := hD
    replace f1 : fr (2 ^ 8 ||| 2 ^ 10) [(1, 11)] Mc M3 := f1
    subst e1
    show ed (f_HTape_takeData_L7 (nI n) M3) (tw (dtI Mc Mr d) _ k M2 (f_MScriptRows_takeData_L5 M2))
    have hn := hD.1
    have c1 : ((4096 : Int32) < nI n) = (4096 < n) := nIlt (x := 4096) (by omega) (by omega)
    unfold f_HTape_takeData_L7 f_MScriptRows_takeData_L5
    simp only [c1]
    rw [if_neg (by omega), s_nextC q1, bd1_s, s_peek q2, bd1_s]
    -- a byte taken: store it or refuse it
    have fin : ∀ (v : Nat) (M9 M14 : im_M) (U : List Int32), v < 256 → CS M9 d U → MS M14 U → fr (2 ^ 8) [] M3 M9 → fr 0 [(71, 8)] M2 M14 → ed (if nI v = (-1) then some (Sum.inr (Sum.inr ((0 : Int32), M9))) else if ¬ (im_i M9 1 11) = 200 then gd (inb (im_i M9 1 11) 200) <| some (Sum.inl ((nI n + 1), (im_setI (im_setI M9 10 (Int32.toNatClampNeg (im_i M9 1 11)) (vp_nar .byte ((Int32.toInt8 (nI v)).toInt32))) 1 11 ((im_i (im_setI M9 10 (Int32.toNatClampNeg (im_i M9 1 11)) (vp_nar .byte ((Int32.toInt8 (nI v)).toInt32))) 1 11) + 1)))) else some (Sum.inr (Sum.inr (0, M9)))) (tw (dtI Mc Mr d) (fun u1 u2 => NDd Mc Mr (sumR u1 1) (sumR u2 0) d) k M2 (if ¬ (im_i M14 71 17) = 200 then gd (inb (im_i M14 71 17) 200) <| some (Sum.inl (im_setI (im_setI M14 79 (Int32.toNatClampNeg (im_i M14 71 17)) (nI v)) 71 17 ((im_i (im_setI M14 79 (Int32.toNatClampNeg (im_i M14 71 17)) (nI v)) 71 17) + 1))) else some (Sum.inr (Sum.inr (6, M14))))) := by
      intro v M9 M14 U hv u1 u2 g1 g2
      have d1 : im_i M9 1 11 = nI n := (g1.1 1 11 (by decide) (by decide)).trans hD.2.1
      have d2 : im_i M14 71 17 = nI n := (g2.1 71 17 (by decide) (by decide)).trans hD.2.2.1
      have g3 : fr (2 ^ 8 ||| 2 ^ 10) [(1, 11)] Mc M9 := fr_tr (fr_mono (by decide) (by decide) g1) f1
      have g4 : fr (2 ^ 79) [(71, 8), (71, 17)] Mr M14 := fr_tr (fr_mono (by decide) (by decide) g2) f2
      have c2 : (nI n = 200) = (n = 200) := nIe (c := 200) (by omega) (by omega)
      rw [if_neg (nI_nm1 (by omega)), d1, d2]
      simp only [c2]
      by_cases h2 : n = 200
      · rw [if_neg (fun z => z h2), if_neg (fun z => z h2)]
        exact two_r rfl ⟨g3, g4, Or.inr ⟨rfl, rfl⟩⟩
      · rw [if_pos h2, if_pos h2, gd_pos (by rw [inb_nI (by omega)]; omega), gd_pos (by rw [inb_nI (by omega)]; omega), nI_clamp (by omega)]
        refine two_l (k - 1) (by omega) rfl ⟨n + 1, U, by omega, nI_add n 1, CS_fr (A := 2 ^ 10) (F := [(1, 11)]) (fr_F (by decide) (fr_I (by decide) fr_refl)) (by decide +kernel) u1, MS_fr (A := 2 ^ 79) (F := [(71, 17)]) (fr_F (by decide) (fr_I (by decide) fr_refl)) (by decide +kernel) u2, ⟨by omega, ?_, ?_, fun j hj => ?_⟩, fr_F (by decide) (fr_I (by decide) g3), fr_F (by decide) (fr_I (by decide) g4)⟩
        · show im_i M9 1 11 + 1 = _
          rw [d1]
          exact nI_add n 1
        · show im_i M14 71 17 + 1 = _
          rw [d2]
          exact nI_add n 1
        · show (if j = n then nI v else im_i M14 79 j) = (if j = n then _ else im_i M9 10 j) &&& 255 ∧ isB (if j = n then _ else im_i M9 10 j)
          by_cases e : j = n
          · rw [if_pos e, if_pos e]
            exact ⟨(nar_by ⟨v, hv⟩).symm, isB_nar⟩
          · rw [if_neg e, if_neg e, g1.1 10 j (by decide) (by simp), g2.1 79 j (by decide) (by simp)]
            exact hD.2.2.2 j (by omega)
    rcases hd_c q1 with hh | ⟨v, U, hv, rfl⟩
    · rw [hh, if_pos rfl, if_pos rfl]
      exact two_r rfl ⟨f1, f2, Or.inl ⟨rfl, rfl, ⟨T, q1, q2⟩, n, hD⟩⟩
    · have hne : ¬ nI v = -1 := nI_nm1 (by omega)
      rw [show nxB (nI v :: U) = nI v from rfl, if_neg hne, if_neg hne, bd1_s]
      by_cases h94 : nI v = 94
      · rw [if_neg (fun z => z h94), if_pos h94]
        exact two_r rfl ⟨f1, f2, Or.inl ⟨rfl, rfl, ⟨_, q1, q2⟩, n, hD⟩⟩
      · obtain ⟨M5, e5, q5, f5⟩ := s_pass q1 hne
        obtain ⟨⟨x5, N5⟩, n5, v5, p5, g5⟩ := s_nextM q2
        replace v5 : x5 = nI v := v5
        replace p5 : MS N5 U := p5
        replace g5 : fr 0 [(71, 8)] M2 N5 := g5
        subst v5
        rw [if_pos h94, if_neg h94, e5, bd1_s, n5, bd2_s]
        simp only [jn2]
        by_cases h95 : nI v = 95
        · rw [if_neg (fun z => z h95), if_neg (fun z => z h95)]
          unfold f_HTape_takeHexPair
          rw [s_nextC q5, bd1_s, s_peek p5, bd1_s]
          have bad : ∀ M9 M14 : im_M, fr (2 ^ 8) [] M3 M9 → fr 0 [(71, 8)] M2 M14 → ed (if (-1 : Int32) = (-1) then some (Sum.inr (Sum.inr ((0 : Int32), M9))) else if ¬ (im_i M9 1 11) = 200 then gd (inb (im_i M9 1 11) 200) <| some (Sum.inl ((nI n + 1), (im_setI (im_setI M9 10 (Int32.toNatClampNeg (im_i M9 1 11)) (vp_nar .byte ((Int32.toInt8 (-1)).toInt32))) 1 11 ((im_i (im_setI M9 10 (Int32.toNatClampNeg (im_i M9 1 11)) (vp_nar .byte ((Int32.toInt8 (-1)).toInt32))) 1 11) + 1)))) else some (Sum.inr (Sum.inr (0, M9)))) (tw (dtI Mc Mr d) (fun u1 u2 => NDd Mc Mr (sumR u1 1) (sumR u2 0) d) k M2 (some (Sum.inr (Sum.inr (6, M14))))) := by
            intro M9 M14 g1 g2
            rw [if_pos rfl]
            exact two_r rfl ⟨fr_tr (fr_mono (by decide) (by decide) g1) f1, fr_tr (fr_mono (by decide) (by decide) g2) f2, Or.inr ⟨rfl, rfl⟩⟩
          rcases hd_c q5 with hh | ⟨v2, V, hv2, rfl⟩
          · rw [hh, (hex_e (M := M5) (M' := N5)).1, bd1_s, (hex_e (M := M5) (M' := N5)).2, bd1_s, if_neg (fun z => z rfl), bd2_s, bd2_s, if_neg (show ¬ (0 : Int32) ≤ -1 by decide)]
            exact bad M5 N5 f5 g5
          · rw [show nxB (nI v2 :: V) = nI v2 from rfl, show f_HTape_hexValue (nI v2) M5 = some (hvN v2) from hex_C ⟨v2, hv2⟩, bd1_s, show f_MScriptRows_hex (nI v2) N5 = some (hvN v2) from hex_M ⟨v2, hv2⟩, bd1_s]
            rcases hv_b (n := v2) with hb | ⟨a, ha, hb⟩
            · rw [hb, if_neg (fun z => z rfl), bd2_s, bd2_s, if_neg (show ¬ (0 : Int32) ≤ -1 by decide)]
              exact bad M5 N5 f5 g5
            · have z0 : ((0 : Int32) ≤ nI a) := by
                have : ((0 : Int32) ≤ nI a) = (0 ≤ a) := nIl (x := 0) (by omega) (by omega)
                rw [this]; omega
              obtain ⟨M6, e6, q6, f6⟩ := s_pass q5 (nI_nm1 (n := v2) (by omega))
              obtain ⟨⟨x9, N9⟩, n9, _, p9, g9⟩ := s_nextM p5
              replace p9 : MS N9 V := p9
              replace g9 : fr 0 [(71, 8)] N5 N9 := g9
              have f6' := fr_tr f6 f5
              have g9' := fr_tr g9 g5
              rw [hb, if_pos (nI_nm1 (by omega)), if_pos z0, e6, bd1_s, n9, bd2_s, s_nextC q6, bd1_s, s_peek p9, bd1_s]
              rcases hd_c q6 with hh | ⟨v3, W, hv3, rfl⟩
              · rw [hh, (hex_e (M := M6) (M' := N9)).1, bd1_s, (hex_e (M := M6) (M' := N9)).2, bd1_s, if_neg (fun z => z rfl), bd2_s, bd2_s, if_neg (show ¬ (0 : Int32) ≤ -1 by decide)]
                exact bad M6 N9 f6' g9'
              · rw [show nxB (nI v3 :: W) = nI v3 from rfl, show f_HTape_hexValue (nI v3) M6 = some (hvN v3) from hex_C ⟨v3, hv3⟩, bd1_s, show f_MScriptRows_hex (nI v3) N9 = some (hvN v3) from hex_M ⟨v3, hv3⟩, bd1_s]
                rcases hv_b (n := v3) with hb3 | ⟨c, hc3, hb3⟩
                · rw [hb3, if_neg (fun z => z rfl), bd2_s, bd2_s, if_neg (show ¬ (0 : Int32) ≤ -1 by decide)]
                  exact bad M6 N9 f6' g9'
                · have z3 : ((0 : Int32) ≤ nI c) := by
                    have : ((0 : Int32) ≤ nI c) = (0 ≤ c) := nIl (x := 0) (by omega) (by omega)
                    rw [this]; omega
                  obtain ⟨M7, e7, q7, f7⟩ := s_pass q6 (nI_nm1 (n := v3) (by omega))
                  obtain ⟨⟨x12, N12⟩, n12, _, p12, g12⟩ := s_nextM p9
                  replace p12 : MS N12 W := p12
                  have ev : (16 : Int32) * nI a + nI c = nI (16 * a + c) := by rw [nI_m, nI_add]
                  rw [hb3, if_pos (nI_nm1 (by omega)), if_pos z3, e7, bd1_s, n12, bd2_s, bd2_s, bd2_s, ev]
                  exact fin (16 * a + c) M7 N12 W (by omega) q7 p12 (fr_tr f7 f6') (fr_tr g12 g9')
        · rw [if_pos h95, if_pos h95, bd2_s]
          exact fin v M5 N5 U hv q5 p5 f5 g5
