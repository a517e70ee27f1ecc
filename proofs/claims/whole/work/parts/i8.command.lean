/-! ONE COMMAND, BOTH SIDES -/
noncomputable def rCmd (N : im_M) : Option im_M := bd2 (f_MScriptRows_next N) fun (x11 : Int32) (M11 : im_M) => bd2 (f_MScriptRows_test x11 M11) fun (x12 : Int32) (M12 : im_M) => if ¬ (im_i (im_setI M12 71 13 x12) 71 13) = 0 then some (im_setI M12 71 13 x12) else bd1 (f_MScriptRows_obey x11 (im_setI M12 71 13 x12)) fun (M13 : im_M) => some M13
def CMD (N : im_M) (d kc : Nat) (r1 : Int32 × im_M) (R2 : im_M) : Prop := im_i R2 71 13 = r1.1 ∧ FL r1.1 ∧ VV r1.2 R2 ∧ (r1.1 = 0 → im_i r1.2 15 9 = nI (kc + 1) ∧ im_i R2 71 11 = nI (kc + 1) ∧ kc + 1 < 2000 ∧ ∃ b' d' T', ST r1.2 R2 b' ∧ d' ≤ d + 1 ∧ (b' = false → d' = 0) ∧ CS r1.2 d' T' ∧ MS R2 T' ∧ im_i R2 71 9 = nI d' ∧ im_i R2 71 10 = (if d = 0 ∧ d' = 1 then im_i N 71 12 else im_i N 71 10))
theorem fol_eq {y4 : Int32} {M6 : im_M} {K9 : im_M → Option (Int32 × im_M)} : (bd1 (f_HSetter_leaveOut y4 M6) fun (M8 : im_M) => jn1 K9 fun k9 => if ¬ y4 = 2 then gd (inb y4 23) <| bd2 (f_HTape_takeNumbers (xa_1 y4) M8) fun (x10 : Int32) (M10 : im_M) => if ¬ x10 = 0 then k9 M10 else some (4, M10) else bd2 (f_HTape_takeNumberAndComma M8) fun (x11 : Int32) (M11 : im_M) => if x11 = 0 then some (4, M11) else k9 M11) = bd2 (bd1 (f_HSetter_leaveOut y4 M6) fun (M8 : im_M) => if ¬ y4 = 2 then gd (inb y4 23) <| f_HTape_takeNumbers (xa_1 y4) M8 else f_HTape_takeNumberAndComma M8) fun (x : Int32) (M : im_M) => if x = 0 then some (4, M) else K9 M := by
  cases e : f_HSetter_leaveOut y4 M6 with
  | none => rfl
  | some M8 =>
    rw [bd1_s, bd1_s]
    simp only [jn1]
    by_cases c : y4 = 2
    · rw [if_neg (fun z => z c), if_neg (fun z => z c)]
    · rw [if_pos c, if_pos c]
      unfold gd
      by_cases g : inb y4 23
      · rw [if_pos g, if_pos g]
        cases f_HTape_takeNumbers (xa_1 y4) M8 with
        | none => rfl
        | some r =>
          show (if ¬ r.1 = 0 then K9 r.2 else some (4, r.2)) = (if r.1 = 0 then some (4, r.2) else K9 r.2)
          by_cases z : r.1 = 0
          · rw [if_neg (fun y => y z), if_pos z]
          · rw [if_pos z, if_neg z]
      · rw [if_neg g, if_neg g]
        rfl
/-- a fault found by both -/
theorem cmd_fault {N N1 M12 Mc' : im_M} {x l : Int32} {d kc : Nat} (hx : ¬ x = 0) (hp : FL x) (en : f_MScriptRows_next N = some (l, N1)) (et : f_MScriptRows_test l N1 = some (x, M12)) (hV : VV Mc' M12) : ed (rCmd N) (fun R2 => CMD N d kc (x, Mc') R2) := by
  unfold rCmd
  rw [en, bd2_s, et, bd2_s, if_pos (show ¬ im_i (im_setI M12 71 13 x) 71 13 = 0 from hx)]
  exact ed_mk ⟨rfl, hp, VV_fr (A1 := 0) (F1 := []) (A2 := 0) (F2 := [(71, 13)]) fr_refl (fr_F (by decide) fr_refl) (by decide +kernel) (by decide +kernel) hV, fun z => absurd z hx⟩
/-- the tests are through on both sides -/
theorem cmd_late {N N1 M15 M21 : im_M} {w d kc : Nat} (en : f_MScriptRows_next N = some (lc w, N1)) (et : f_MScriptRows_test (lc w) N1 = tsT (lc w) 0 M15) (h : LTR w d kc (f_HSetter_laterFault (nI w) M21) (tsT (lc w) 0 M15)) (n10 : ∀ r, f_MScriptRows_test (lc w) N1 = some r → im_i r.2 71 12 = im_i N 71 12 ∧ im_i r.2 71 10 = im_i N 71 10) : ed (bd2 (f_HSetter_laterFault (nI w) M21) fun (x24 : Int32) (M24 : im_M) => if ¬ x24 = 0 then some (x24, M24) else bd1 (f_HSetter_perform (nI w) M24) fun (M25 : im_M) => some (x24, M25)) (fun r1 => ed (rCmd N) (fun R2 => CMD N d kc r1 R2)) := by
  obtain ⟨⟨x24, M24⟩, e1, ⟨x12, M12⟩, e2, hx, hF, hV, hok⟩ := h
  replace hF : FL x24 := hF
  replace hx : x24 = x12 := hx
  replace hV : VV M24 M12 := hV
  subst hx
  rw [e1, bd2_s]
  have et2 := et.trans e2
  by_cases c : x24 = 0
  · subst c
    obtain ⟨k15, k11, kk, b', hp⟩ := hok rfl
    replace k15 : im_i M24 15 9 = nI (kc + 1) := k15
    replace k11 : im_i M12 71 11 = nI (kc + 1) := k11
    obtain ⟨R1, p1, R2, p2, hS, d', T', hd', hb', hc', hm', h9', h10'⟩ := hp 0
    replace p1 : f_HSetter_perform (nI w) M24 = some R1 := p1
    replace p2 : f_MScriptRows_obey (lc w) (im_setI M12 71 13 0) = some R2 := p2
    rw [if_neg (fun z => z rfl), p1, bd1_s]
    refine ed_mk ?_
    unfold rCmd
    rw [en, bd2_s, et2, bd2_s, if_neg (show ¬ ¬ im_i (im_setI M12 71 13 0) 71 13 = 0 from fun z => z rfl), p2, bd1_s]
    have fp := f_HSetter_perform_fr p1
    have fo := f_MScriptRows_obey_fr p2
    obtain ⟨t12, t10⟩ := n10 _ et2
    refine ed_mk ⟨?_, Or.inl rfl, hS.2.2.1, fun _ => ⟨?_, ?_, kk, b', d', T', hS, hd', hb', hc', hm', h9', ?_⟩⟩
    · rw [fo.1 71 13 (by decide +kernel) (by decide)]
      rfl
    · show im_i R1 15 9 = _
      rw [fp.1 15 9 (by decide +kernel) (by decide)]
      exact k15
    · rw [fo.1 71 11 (by decide +kernel) (by decide)]
      exact k11
    · rw [h10', ← t12, ← t10]
      rfl
  · rw [if_pos c]
    exact ed_mk (cmd_fault c hF en et2 hV)
theorem two_follow {Mc N : im_M} {b : Bool} {d kc : Nat} {T : List Int32} (q : ST Mc N b) (hbd : b = false → d = 0) (hc : CS Mc d T) (hm : MS N T) (h9 : im_i N 71 9 = nI d) (h15 : im_i Mc 15 9 = nI kc) (h11 : im_i N 71 11 = nI (kc + 1)) (hkc : kc < 2000) : ed (f_HSetter_follow Mc) (fun r1 => ed (rCmd N) (fun R2 => CMD N d kc r1 R2)) := by
  obtain ⟨⟨l, N1⟩, en, el, hm1, fn⟩ := s_nextM hm
  replace el : l = nxB T := el
  replace hm1 : MS N1 T.tail := hm1
  replace fn : fr 0 [(71, 8)] N N1 := fn
  subst el
  have d4 := hc.1
  have V1 : VV Mc N1 := VV_fr (A1 := 0) (F1 := []) fr_refl fn (by decide +kernel) (by decide +kernel) q.2.2.1
  have g0 : ¬ (0 : Int32) ≤ -1 := by decide
  unfold f_HSetter_follow
  rw [s_nextC hc, bd1_s]
  rcases hd_c hc with hh | ⟨v, U, hv, rfl⟩
  · rw [hh] at en ⊢
    rw [if_neg (fun z => z rfl), bd1_s, if_neg g0]
    refine ed_mk (cmd_fault (by decide) (Or.inr (by decide)) en ?_ V1)
    rw [test_eq]
    rfl
  · rw [show nxB (nI v :: U) = nI v from rfl] at en ⊢
    replace hm1 : MS N1 U := hm1
    rw [if_pos (nI_nm1 (by omega))]
    rcases s_letter (M := Mc) (M' := N1) hv with ⟨w, hw, lw, e1, e2⟩ | ⟨e1, e2⟩
    · rw [e1, bd1_s, bd1_s]
      have hs4 : hs w ≤ 4 := (hs_t ⟨w, hw⟩).2
      have w0 : (0 : Int32) ≤ nI w := by
        have : ((0 : Int32) ≤ nI w) = (0 ≤ w) := nIl (x := 0) (by omega) (by omega)
        rw [this]; omega
      have hs0 : (0 : Int32) ≤ nI (hs w) := by
        have : ((0 : Int32) ≤ nI (hs w)) = (0 ≤ hs w) := nIl (x := 0) (by omega) (by omega)
        rw [this]; omega
      rw [← lw] at en e2
      obtain ⟨M6, e6, c6, f6⟩ := s_pass hc (nI_nm1 (n := v) (by omega))
      have q6 : ST M6 N1 b := ST_fr (fr_mono (by decide) (by decide) f6) (fr_mono (by decide) (by decide) fn) q
      have n9 : im_i N1 71 9 = nI d := (fn.1 71 9 (by decide) (by decide)).trans h9
      obtain ⟨x, sC, sM, hx⟩ := two_stand hw q6 c6.2.1 n9 (by omega)
      rw [if_pos w0, e6, bd1_s, sC, bd1_s]
      have tq : f_MScriptRows_test (lc w) N1 = bd1 (f_MScriptRows_mayStand (lc w) N1) fun (x2 : Int32) => if ¬ x2 = 0 then bd2 (f_MScriptRows_takeNumbers (lc w) N1) fun (x3 : Int32) (M3 : im_M) => bd1 (if ¬ x3 = 0 then some x3 else bd1 (f_MScriptRows_testRanges (lc w) M3) fun (x5 : Int32) => some x5) fun (y6 : Int32) => bd2 (if ¬ y6 = 0 then some (y6, M3) else jn0 (fun (_ : Unit) => bd2 (f_MScriptRows_takeData M3) fun (x13 : Int32) (M13 : im_M) => some (x13, M13)) fun k10 => if lc w = 88 then k10 () else if ¬ lc w = 75 then some (y6, M3) else k10 ()) fun (y14 : Int32) (M15 : im_M) => tsT (lc w) y14 M15 else some (3, N1) := by
        rw [test_eq, e2, bd1_s, if_pos hs0]
      rcases hx with x0 | ⟨x1, hb1, hb2, hd3, hk22⟩
      · rw [x0, if_neg (fun z => z rfl)]
        refine ed_mk (cmd_fault (by decide) (Or.inr (by decide)) en ?_ q6.2.2.1)
        rw [tq, sM, x0, bd1_s, if_neg (fun z => z rfl)]
      · rw [x1, if_pos (show ¬ (1 : Int32) = 0 by decide), fol_eq]
        rw [sM, x1, bd1_s, if_pos (show ¬ (1 : Int32) = 0 by decide)] at tq
        have hT : ∀ k, k < 4 → w = 13 → im_i N1 80 k = im_i M6 18 k := fun k hk w13 => by
          have : b = true := by
            cases b with
            | true => rfl
            | false => have := hb1 rfl; omega
          subst this
          obtain ⟨_, _, _, _, _, _, _, _, ht, _⟩ := q6.2.2.2.2.2 rfl
          exact ht.1 k hk
        have tk : ed (bd1 (f_HSetter_leaveOut (nI w) M6) fun (M8 : im_M) => if ¬ nI w = 2 then gd (inb (nI w) 23) <| f_HTape_takeNumbers (xa_1 (nI w)) M8 else f_HTape_takeNumberAndComma M8) (fun r1 => ed (f_MScriptRows_takeNumbers (lc w) N1) (fun r2 => NDs M6 N1 r1 r2 d (hs w))) := two_take hw c6 hm1 hT
        obtain ⟨⟨t1, M10⟩, et1, ⟨t2, M3⟩, et2, fa, fb, hN⟩ := tk
        replace fa : fr (2 ^ 8 ||| 2 ^ 9) [] M6 M10 := fa
        replace fb : fr (2 ^ 78) [(71, 8)] N1 M3 := fb
        have q10 : ST M10 M3 b := ST_fr (fr_mono (by decide) (by decide) fa) (fr_mono (by decide) (by decide) fb) q6
        rw [et1, bd2_s]
        rw [et2, bd2_s] at tq
        rcases hN with ⟨u1, u2, ⟨T', ct, mt⟩, hNum⟩ | ⟨u1, u2⟩
        · replace u1 : t1 = 1 := u1
          replace u2 : t2 = 0 := u2
          replace ct : CS M10 d T' := ct
          replace mt : MS M3 T' := mt
          replace hNum : ∀ j, j < hs w → im_i M3 78 j = im_i M10 9 j := hNum
          rw [u1, if_neg (show ¬ (1 : Int32) = 0 by decide)]
          rw [u2, if_neg (fun z => z rfl)] at tq
          rcases two_ranges hw hNum with ⟨r1, r2, hRG⟩ | ⟨r1, r2⟩
          · rw [r1, bd1_s, if_pos (show ¬ (1 : Int32) = 0 by decide)]
            rw [r2, bd1_s, bd1_s, if_neg (fun z => z rfl)] at tq
            simp only [jn0, jn1] at tq ⊢
            have kk : ∀ z : Nat, z < 100 → (nI w = nI z) = (w = z) := fun z hz => nIe (by omega) (by omega)
            have k2 : (nI w = 2) = (w = 2) := kk 2 (by omega)
            have k10 : (nI w = 10) = (w = 10) := kk 10 (by omega)
            have t := lc_84 ⟨w, hw⟩
            replace t : (lc w = 84 ↔ w = 13) ∧ (lc w = 75 ↔ w = 2) ∧ (lc w = 88 ↔ w = 10) ∧ (lc w = 83 ↔ w = 0) ∧ (lc w = 59 ↔ w = 22) ∧ (lc w = 85 ↔ w = 7) ∧ (lc w = 69 ↔ w = 3) ∧ (lc w = 76 ↔ w = 1) ∧ (lc w = 86 ↔ w = 11) := t
            simp only [t.2.1, t.2.2.1] at tq
            simp only [k2, k10]
            have m9 : im_i M3 71 9 = nI d := (fb.1 71 9 (by decide) (by decide)).trans n9
            have m11 : im_i M3 71 11 = nI (kc + 1) := ((fb.1 71 11 (by decide) (by decide)).trans (fn.1 71 11 (by decide) (by decide))).trans h11
            have m15 : im_i M10 15 9 = nI kc := ((fa.1 15 9 (by decide) (by decide)).trans (f6.1 15 9 (by decide) (by decide))).trans h15
            have m2 : w = 22 → ¬ im_i M10 23 2 = -1 := fun z => by
              rw [fa.1 23 2 (by decide) (by decide)]
              exact hk22 z
            have n10 : ∀ r, f_MScriptRows_test (lc w) N1 = some r → im_i r.2 71 12 = im_i N 71 12 ∧ im_i r.2 71 10 = im_i N 71 10 := fun r hr => by
              have ft := f_MScriptRows_test_fr hr
              exact ⟨(ft.1 71 12 (by decide +kernel) (by decide)).trans (fn.1 71 12 (by decide) (by decide)), (ft.1 71 10 (by decide +kernel) (by decide)).trans (fn.1 71 10 (by decide) (by decide))⟩
            by_cases dd : w = 2 ∨ w = 10
            · -- with data
              obtain ⟨⟨y1, M20⟩, ey1, ⟨y2, M13⟩, ey2, ga, gb, hD⟩ := two_data ct mt
              replace ga : fr (2 ^ 8 ||| 2 ^ 10) [(1, 11)] M10 M20 := ga
              replace gb : fr (2 ^ 79) [(71, 8), (71, 17)] M3 M13 := gb
              have q20 : ST M20 M13 b := ST_fr (fr_mono (by decide) (by decide) ga) (fr_mono (by decide) (by decide) gb) q10
              have tc : ∀ {Z : Type} (x y : Option Z), (if w = 2 then x else if ¬ w = 10 then y else x) = x := fun x y => by
                by_cases z : w = 2
                · rw [if_pos z]
                · rw [if_neg z, if_neg (fun k => k (by omega))]
              have tr : ∀ {Z : Type} (x y : Option Z), (if w = 10 then x else if ¬ w = 2 then y else x) = x := fun x y => by
                by_cases z : w = 10
                · rw [if_pos z]
                · rw [if_neg z, if_neg (fun k => k (by omega))]
              rw [tc, ey1, bd2_s]
              rw [tr, ey2, bd2_s, bd2_s] at tq
              rcases hD with ⟨v1, v2, ⟨T2, c20, mm⟩, n, hDT⟩ | ⟨v1, v2⟩
              · replace v1 : y1 = 1 := v1
                replace v2 : y2 = 0 := v2
                rw [v1, if_pos (show ¬ (1 : Int32) = 0 by decide)]
                rw [v2] at tq
                have e9 : im_i M20 9 = im_i M10 9 := fr_c ga 9 (by decide) (by decide)
                have e78 : im_i M13 78 = im_i M3 78 := fr_c gb 78 (by decide) (by decide)
                have lt := two_late (T := T2) hw q20 hb1 hb2 hd3 (fun z => by rw [ga.1 23 2 (by decide) (by decide)]; exact m2 z) hbd c20 mm ((gb.1 71 9 (by decide) (by decide)).trans m9) (fun j hj => by rw [e78, e9]; exact hNum j hj) (fun k hk => by unfold RG3; rw [e9]; exact hRG k hk) (fun _ => ⟨n, hDT⟩) ((ga.1 15 9 (by decide) (by decide)).trans m15) ((gb.1 71 11 (by decide) (by decide)).trans m11) hkc
                exact cmd_late en tq lt n10
              · replace v1 : y1 = 0 := v1
                replace v2 : y2 = 6 := v2
                rw [v1, if_neg (fun z => z rfl)]
                rw [v2, tsT_f (by decide)] at tq
                exact ed_mk (cmd_fault (by decide) (Or.inr (by decide)) en tq q20.2.2.1)
            · have tc : ∀ {Z : Type} (x y : Option Z), (if w = 2 then x else if ¬ w = 10 then y else x) = y := fun x y => by
                rw [if_neg (by omega), if_pos (by omega)]
              have tr : ∀ {Z : Type} (x y : Option Z), (if w = 10 then x else if ¬ w = 2 then y else x) = y := fun x y => by
                rw [if_neg (by omega), if_pos (by omega)]
              rw [tc]
              rw [tr, bd2_s] at tq
              exact cmd_late en tq (two_late (T := T') hw q10 hb1 hb2 hd3 m2 hbd ct mt m9 hNum hRG (fun z => absurd z dd) m15 m11 hkc) n10
          · rw [r1, bd1_s, if_neg (fun z => z rfl)]
            rw [r2, bd1_s, bd1_s, if_pos (by decide), bd2_s, tsT_f (by decide)] at tq
            exact ed_mk (cmd_fault (by decide) (Or.inr (by decide)) en tq q10.2.2.1)
        · replace u1 : t1 = 0 := u1
          replace u2 : t2 = 4 := u2
          rw [u1, if_pos rfl]
          rw [u2, if_pos (by decide), bd1_s, if_pos (by decide), bd2_s, tsT_f (by decide)] at tq
          exact ed_mk (cmd_fault (by decide) (Or.inr (by decide)) en tq q10.2.2.1)
    · rw [e1, bd1_s, bd1_s, if_neg g0]
      refine ed_mk (cmd_fault (by decide) (Or.inr (by decide)) en ?_ V1)
      rw [test_eq, e2]
      rfl
