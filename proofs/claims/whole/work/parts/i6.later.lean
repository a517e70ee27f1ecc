/-! THE LATER FAULTS, BOTH SIDES -/
/-- what the reference tests behind numbers and data -/
def tsE (p0 y40 : Int32) (M32 : im_M) : Int32 := (if ¬ y40 = 0 then y40 else (if ¬ p0 = 69 then y40 else (if 12 < ((im_i M32 71 35) + (im_i M32 71 21)) then 10 else (if ((im_i M32 71 37) + ((im_i M32 71 21) * (im_i M32 71 26))) ≤ 120 then y40 else 10))))
noncomputable def tsZ (p0 y40 : Int32) (M32 : im_M) : Option (Int32 × im_M) := if ¬ tsE p0 y40 M32 = 0 then some (tsE p0 y40 M32, M32) else if ¬ (im_i M32 71 11) = 2000 then some (tsE p0 y40 M32, M32) else some (10, M32)
noncomputable def tsT (p0 : Int32) (y14 : Int32) (M15 : im_M) : Option (Int32 × im_M) := bd1 (if ¬ y14 = 0 then some y14 else if ¬ p0 = 83 then some y14 else bd1 (f_MScriptRows_formSize M15) fun (x20 : Int32) => jn0 (fun (_ : Unit) => some 7) fun k21 => if x20 < 0 then k21 () else bd1 (f_MScriptRows_formSize M15) fun (x22 : Int32) => if x22 ≤ 400 then some y14 else k21 ()) fun (y25 : Int32) => bd2 (if ¬ y25 = 0 then some (y25, M15) else if ¬ p0 = 59 then some (y25, M15) else bd2 (f_MScriptRows_tryField M15) fun (x30 : Int32) (M30 : im_M) => some (x30, M30)) fun (y31 : Int32) (M32 : im_M) => bd1 (if ¬ y31 = 0 then some y31 else if ¬ p0 = 85 then some y31 else gd (inb 0 4) <| gd (inb (im_i M32 78 (Int32.toNatClampNeg 0)) 8) <| jn0 (fun (_ : Unit) => some 9) fun k37 => if (im_i M32 74 (Int32.toNatClampNeg (im_i M32 78 (Int32.toNatClampNeg 0)))) = 0 then k37 () else if ¬ (im_i M32 71 9) = 4 then some y31 else k37 ()) fun (y40 : Int32) => tsZ p0 y40 M32
theorem test_eq {p0 : Int32} {M : im_M} : f_MScriptRows_test p0 M = bd1 (f_MScriptRows_numbers p0 M) fun (x1 : Int32) => if 0 ≤ x1 then bd1 (f_MScriptRows_mayStand p0 M) fun (x2 : Int32) => if ¬ x2 = 0 then bd2 (f_MScriptRows_takeNumbers p0 M) fun (x3 : Int32) (M3 : im_M) => bd1 (if ¬ x3 = 0 then some x3 else bd1 (f_MScriptRows_testRanges p0 M3) fun (x5 : Int32) => some x5) fun (y6 : Int32) => bd2 (if ¬ y6 = 0 then some (y6, M3) else jn0 (fun (_ : Unit) => bd2 (f_MScriptRows_takeData M3) fun (x13 : Int32) (M13 : im_M) => some (x13, M13)) fun k10 => if p0 = 88 then k10 () else if ¬ p0 = 75 then some (y6, M3) else k10 ()) fun (y14 : Int32) (M15 : im_M) => tsT p0 y14 M15 else some (3, M) else some (2, M) := rfl
theorem tsZ_f {p0 y : Int32} {M : im_M} (h : ¬ y = 0) : tsZ p0 y M = some (y, M) := by
  have e : tsE p0 y M = y := by unfold tsE; rw [if_pos h]
  unfold tsZ
  rw [e, if_pos h]
theorem tsZ_0 {p0 : Int32} {M : im_M} {k : Nat} (h69 : ¬ p0 = 69) (h11 : im_i M 71 11 = nI k) (hk : k ≤ 2000) : tsZ p0 0 M = some ((if 2000 ≤ k then 10 else 0), M) := by
  have e : tsE p0 0 M = 0 := by unfold tsE; rw [if_neg (fun z => z rfl), if_pos h69]
  have g : (nI k = 2000) = (k = 2000) := nIe (c := 2000) (by omega) (by omega)
  unfold tsZ
  rw [e, if_neg (fun z => z rfl), h11]
  simp only [g]
  by_cases c : k = 2000
  · rw [if_neg (fun z => z c), if_pos (by omega)]
  · rw [if_pos c, if_neg (by omega)]
theorem tsZ_E {M : im_M} {k : Nat} {x : Int32} (he : tsE 69 0 M = x) (h11 : im_i M 71 11 = nI k) (hk : k ≤ 2000) : tsZ 69 0 M = some ((if ¬ x = 0 then x else if 2000 ≤ k then 10 else x), M) := by
  have g : (nI k = 2000) = (k = 2000) := nIe (c := 2000) (by omega) (by omega)
  unfold tsZ
  rw [he, h11]
  simp only [g]
  by_cases z : x = 0
  · have nz : ¬ ¬ x = 0 := fun y => y z
    rw [if_neg nz]
    by_cases c : k = 2000
    · have nc : ¬ ¬ k = 2000 := fun y => y c
      rw [if_neg nc, if_neg nz, if_pos (by omega)]
    · rw [if_pos c, if_neg nz, if_neg (by omega)]
  · rw [if_pos z, if_pos z]
theorem tsT_f {p0 y : Int32} {M : im_M} (h : ¬ y = 0) : tsT p0 y M = some (y, M) := by
  unfold tsT
  rw [if_pos h, bd1_s, if_pos h, bd2_s, if_pos h, bd1_s]
  exact tsZ_f h
/-- the end of the tests: only the number of commands is left -/
theorem tsT_0 {p0 : Int32} {M : im_M} {k : Nat} (h83 : ¬ p0 = 83) (h59 : ¬ p0 = 59) (h85 : ¬ p0 = 85) (h69 : ¬ p0 = 69) (h11 : im_i M 71 11 = nI k) (hk : k ≤ 2000) : tsT p0 0 M = some ((if 2000 ≤ k then 10 else 0), M) := by
  unfold tsT
  rw [if_neg (fun z => z rfl), if_pos h83, bd1_s, if_neg (fun z => z rfl), if_pos h59, bd2_s, if_neg (fun z => z rfl), if_pos h85, bd1_s]
  exact tsZ_0 h69 h11 hk
/-- no fault, or one above 0 -/
def FL (x : Int32) : Prop := x = 0 ∨ ¬ x ≤ 0
theorem fl_if {c : Prop} [Decidable c] : FL (if c then 10 else 0) := by
  by_cases h : c
  · rw [if_pos h]
    exact Or.inr (by decide)
  · rw [if_neg h]
    exact Or.inl rfl
def LTR (w d kc : Nat) (o1 o2 : Option (Int32 × im_M)) : Prop := ed o1 (fun r1 => ed o2 (fun r2 => r1.1 = r2.1 ∧ FL r1.1 ∧ VV r1.2 r2.2 ∧ (r1.1 = 0 → im_i r1.2 15 9 = nI (kc + 1) ∧ im_i r2.2 71 11 = nI (kc + 1) ∧ kc + 1 < 2000 ∧ ∃ b', ∀ v, PO r1.2 (im_setI r2.2 71 13 v) w d b')))
/-- the end of the class's tests -/
theorem later_end {M15 : im_M} {p0 : Int32} {kc : Nat} {x : Int32} (h : im_i M15 15 9 = nI kc) (hk : kc < 2000) (hx : f_HSetter_isTooMuch p0 (im_setI M15 15 9 (nI (kc + 1))) = some x) : (if 2000 ≤ (im_i (im_setI M15 15 9 ((im_i M15 15 9) + 1)) 15 9) then some ((10 : Int32), (im_setI M15 15 9 ((im_i M15 15 9) + 1))) else bd1 (f_HSetter_isTooMuch p0 (im_setI M15 15 9 ((im_i M15 15 9) + 1))) fun (x22 : Int32) => if x22 = 0 then some (0, (im_setI M15 15 9 ((im_i M15 15 9) + 1))) else some (10, (im_setI M15 15 9 ((im_i M15 15 9) + 1)))) = some ((if 2000 ≤ kc + 1 then 10 else if x = 0 then 0 else 10), im_setI M15 15 9 (nI (kc + 1))) := by
  have e1 : im_i M15 15 9 + 1 = nI (kc + 1) := by rw [h]; exact nI_add _ 1
  have e2 : im_i (im_setI M15 15 9 (nI (kc + 1))) 15 9 = nI (kc + 1) := rfl
  have e3 : ((2000 : Int32) ≤ nI (kc + 1)) = (2000 ≤ kc + 1) := nIl (x := 2000) (by omega) (by omega)
  rw [e1, e2, hx, bd1_s]
  simp only [e3]
  by_cases c : 2000 ≤ kc + 1
  · rw [if_pos c, if_pos c]
  · rw [if_neg c, if_neg c]
    by_cases z : x = 0
    · rw [if_pos z, if_pos z]
    · rw [if_neg z, if_neg z]
theorem late_plain {Mc Mr : im_M} {b : Bool} {d w kc : Nat} {T : List Int32} (hw : w < 23) (n0 : ¬ w = 0) (n3 : ¬ w = 3) (n7 : ¬ w = 7) (n22 : ¬ w = 22) (q : ST Mc Mr b) (hb1 : b = false → w = 0 ∨ w = 1 ∨ w = 2) (hb2 : b = true → ¬ w = 0 ∧ ¬ w = 1) (hbd : b = false → d = 0) (hc : CS Mc d T) (hm : MS Mr T) (h9 : im_i Mr 71 9 = nI d) (hN : ∀ j, j < hs w → im_i Mr 78 j = im_i Mc 9 j) (hR : ∀ k, k < hs w → RG3 Mc w k) (hD : w = 2 ∨ w = 10 → ∃ n, DTA Mc Mr n) (h15 : im_i Mc 15 9 = nI kc) (h11 : im_i Mr 71 11 = nI (kc + 1)) (hkc : kc < 2000) : LTR w d kc (f_HSetter_laterFault (nI w) Mc) (tsT (lc w) 0 Mr) := by
  have kk : ∀ z : Nat, z < 100 → (nI w = nI z) = (w = z) := fun z hz => nIe (by omega) (by omega)
  have k0 : (nI w = 0) = (w = 0) := kk 0 (by omega)
  have k3 : (nI w = 3) = (w = 3) := kk 3 (by omega)
  have k7 : (nI w = 7) = (w = 7) := kk 7 (by omega)
  have k22 : (nI w = 22) = (w = 22) := kk 22 (by omega)
  have t := lc_84 ⟨w, hw⟩
  replace t : (lc w = 84 ↔ w = 13) ∧ (lc w = 75 ↔ w = 2) ∧ (lc w = 88 ↔ w = 10) ∧ (lc w = 83 ↔ w = 0) ∧ (lc w = 59 ↔ w = 22) ∧ (lc w = 85 ↔ w = 7) ∧ (lc w = 69 ↔ w = 3) ∧ (lc w = 76 ↔ w = 1) ∧ (lc w = 86 ↔ w = 11) := t
  have hx : f_HSetter_isTooMuch (nI w) (im_setI Mc 15 9 (nI (kc + 1))) = some 0 := by
    unfold f_HSetter_isTooMuch
    simp only [k22, k3]
    rw [if_pos n22, if_pos n3]
  have e1 : f_HSetter_laterFault (nI w) Mc = some ((if 2000 ≤ kc + 1 then 10 else 0), im_setI Mc 15 9 (nI (kc + 1))) := by
    unfold f_HSetter_laterFault
    simp only [jn0, jn1, k0, k7, k22]
    rw [if_pos n0, if_pos n22, if_pos n7, later_end h15 hkc hx]
    rfl
  have e2 := tsT_0 (p0 := lc w) (fun z => n0 (t.2.2.2.1.mp z)) (fun z => n22 (t.2.2.2.2.1.mp z)) (fun z => n7 (t.2.2.2.2.2.1.mp z)) (fun z => n3 (t.2.2.2.2.2.2.1.mp z)) h11 (by omega)
  have f1 : fr 0 [(15, 9)] Mc (im_setI Mc 15 9 (nI (kc + 1))) := fr_F (by decide) fr_refl
  have q1 : ST (im_setI Mc 15 9 (nI (kc + 1))) Mr b := ST_fr (fr_mono (by decide) (by decide) f1) fr_refl q
  have hc1 : CS (im_setI Mc 15 9 (nI (kc + 1))) d T := CS_fr f1 (by decide +kernel) hc
  refine ⟨_, e1, _, e2, rfl, fl_if, q1.2.2.1, fun z => ⟨rfl, h11, ?_, ?_⟩⟩
  · replace z : (if 2000 ≤ kc + 1 then (10 : Int32) else 0) = 0 := z
    by_cases c : 2000 ≤ kc + 1
    · rw [if_pos c] at z
      exact absurd z (by decide)
    · omega
  · show ∃ b', ∀ v, PO (im_setI Mc 15 9 (nI (kc + 1))) (im_setI Mr 71 13 v) w d b'
    have f3 : ∀ v, fr 0 [(71, 13)] Mr (im_setI Mr 71 13 v) := fun v => fr_F (by decide) fr_refl
    have q3 : ∀ v, ST (im_setI Mc 15 9 (nI (kc + 1))) (im_setI Mr 71 13 v) b := fun v => ST_fr fr_refl (fr_mono (by decide) (by decide) (f3 v)) q1
    have hm3 : ∀ v, MS (im_setI Mr 71 13 v) T := fun v => MS_fr (f3 v) (by decide +kernel) hm
    have hD1 : w = 2 ∨ w = 10 → ∃ n, DTA (im_setI Mc 15 9 (nI (kc + 1))) Mr n := hD
    have hR1 : ∀ k, k < hs w → RG3 (im_setI Mc 15 9 (nI (kc + 1))) w k := hR
    have hN1 : ∀ j, j < hs w → im_i Mr 78 j = im_i (im_setI Mc 15 9 (nI (kc + 1))) 9 j := hN
    by_cases w2 : w = 2
    · subst w2
      obtain ⟨n, hn⟩ := hD1 (Or.inl rfl)
      exact ⟨b, fun v => po_K (q3 v) hbd hc1 (hm3 v) h9 (hN1 0 (by decide)) (hR1 0 (by decide)) hn⟩
    · cases b with
      | false =>
        have : w = 1 := by
          have := hb1 rfl
          omega
        subst this
        obtain rfl : d = 0 := hbd rfl
        exact ⟨true, fun v => po_L (q3 v) hc1 (hm3 v) h9 (fun j hj => hN1 j (by show j < 2; exact hj)) (fun k hk => hR1 k (by show k < 2; exact hk))⟩
      | true =>
        have := hb2 rfl
        refine ⟨true, fun v => ?_⟩
        by_cases w13 : 13 ≤ w
        · exact po_T w13 (by omega) (q3 v) hc1 (hm3 v) h9 hN1 hR1
        · have : w = 4 ∨ w = 5 ∨ w = 6 ∨ w = 8 ∨ w = 9 ∨ w = 10 ∨ w = 11 ∨ w = 12 := by omega
          rcases this with rfl | rfl | rfl | rfl | rfl | rfl | rfl | rfl
          · exact po_H (q3 v) hc1 (hm3 v) h9 (fun j hj => hN1 j hj)
          · exact po_C (q3 v) hc1 (hm3 v) h9 (hN1 0 (by decide)) (hR1 0 (by decide))
          · exact po_D (q3 v) hc1 (hm3 v) h9 (fun j hj => hN1 j hj) (fun k hk => hR1 k hk)
          · exact po_O (q3 v) hc1 (hm3 v) h9 (fun j hj => hN1 j hj)
          · exact po_R (q3 v) hc1 (hm3 v) h9
          · obtain ⟨n, hn⟩ := hD1 (Or.inr rfl)
            exact po_X (q3 v) hc1 (hm3 v) h9 hn
          · exact po_V (q3 v) hc1 (hm3 v) h9 (hN1 0 (by decide)) (hR1 0 (by decide))
          · exact po_N (q3 v) hc1 (hm3 v) h9 (hN1 0 (by decide)) (hR1 0 (by decide))
theorem late_S {Mc Mr : im_M} {kc : Nat} {T : List Int32} (q : ST Mc Mr false) (hc : CS Mc 0 T) (hm : MS Mr T) (h9 : im_i Mr 71 9 = nI 0) (hN : im_i Mr 78 0 = im_i Mc 9 0) (hR : RG3 Mc 0 0) (h15 : im_i Mc 15 9 = nI kc) (h11 : im_i Mr 71 11 = nI (kc + 1)) (hkc : kc < 2000) : LTR 0 0 kc (f_HSetter_laterFault (nI 0) Mc) (tsT (lc 0) 0 Mr) := by
  obtain ⟨a, m, x1, x2, x3, x4⟩ := hc.2.2
  have eE := s_endOfForm hc q.2.2.2.1 x1 (by omega)
  have tl : T.length = m := by rw [x4, bl_len]
  have eF := s_formSize hm
  have hx : ∀ v, f_HSetter_isTooMuch (nI 0) (im_setI (im_setI Mc 15 15 v) 15 9 (nI (kc + 1))) = some 0 := fun v => rfl
  have e11 : (nI (kc + 1) = 2000) = (kc + 1 = 2000) := nIe (c := 2000) (by omega) (by omega)
  have bad : ∀ v : Int32, v = -1 → (oI (fdp (pZ T) (T.length - 1)) < 0 ∨ ¬ oI (fdp (pZ T) (T.length - 1)) ≤ 400) → f_HTape_endOfForm Mc = some v → LTR 0 0 kc (f_HSetter_laterFault (nI 0) Mc) (tsT (lc 0) 0 Mr) := by
    intro v hv hb hE
    have e1 : f_HSetter_laterFault (nI 0) Mc = some (7, im_setI Mc 15 15 (-1)) := by
      unfold f_HSetter_laterFault
      simp only [jn0, jn1]
      rw [if_neg (fun z => z rfl), hE, hv, bd1_s, if_neg (fun z => z rfl)]
    have e2 : tsT (lc 0) 0 Mr = some (7, Mr) := by
      unfold tsT
      rw [lc_t.1, if_neg (fun z => z rfl), if_neg (fun z => z rfl), eF, bd1_s]
      simp only [jn0]
      have : (if oI (fdp (pZ T) (T.length - 1)) < 0 then some (7 : Int32) else bd1 (some (oI (fdp (pZ T) (T.length - 1)))) fun (x22 : Int32) => if x22 ≤ 400 then some 0 else some 7) = some 7 := by
        rw [bd1_s]
        by_cases c : oI (fdp (pZ T) (T.length - 1)) < 0
        · rw [if_pos c]
        · rw [if_neg c]
          rcases hb with hb | hb
          · exact absurd hb c
          · rw [if_neg hb]
      rw [this]
      rfl
    refine ⟨_, e1, _, e2, rfl, (show FL 7 from Or.inr (by decide)), ?_, fun z => absurd (show (7 : Int32) = 0 from z) (by decide)⟩
    exact VV_fr (A1 := 0) (F1 := [(15, 15)]) (A2 := 0) (F2 := []) (fr_F (by decide) fr_refl) fr_refl (by decide +kernel) (by decide +kernel) q.2.2.1
  cases ef : fdp (pZ T) (T.length - 1) with
  | none =>
    rw [ef] at eE
    exact bad (-1) rfl (Or.inl (by rw [ef]; decide)) eE
  | some j =>
    rw [ef] at eE
    have jl := (fdp_some _ _ ef).1
    by_cases j4 : j ≤ 400
    · replace eE : f_HTape_endOfForm Mc = some (if j ≤ 400 then nI (a + j) else -1) := eE
      rw [if_pos j4] at eE
      have e1 : f_HSetter_laterFault (nI 0) Mc = some ((if 2000 ≤ kc + 1 then 10 else 0), im_setI (im_setI Mc 15 15 (nI (a + j))) 15 9 (nI (kc + 1))) := by
        unfold f_HSetter_laterFault
        simp only [jn0, jn1]
        rw [if_neg (fun z => z rfl), eE, bd1_s, if_pos (show ¬ im_i (im_setI Mc 15 15 (nI (a + j))) 15 15 = -1 from nI_nm1 (by omega)), if_pos (by decide), if_pos (by decide), later_end (M15 := im_setI Mc 15 15 (nI (a + j))) h15 hkc (hx _)]
        rfl
      have e2 : tsT (lc 0) 0 Mr = some ((if 2000 ≤ kc + 1 then 10 else 0), Mr) := by
        unfold tsT
        have g0 : ¬ nI j < 0 := by
          have : (nI j < 0) = (j < 0) := nIlt (c := 0) (by omega) (by omega)
          rw [this]; omega
        have g4 : nI j ≤ 400 := by
          have : (nI j ≤ 400) = (j ≤ 400) := nIl (c := 400) (by omega) (by omega)
          rw [this]; exact j4
        rw [lc_t.1, if_neg (fun z => z rfl), if_neg (fun z => z rfl), eF, ef, bd1_s]
        simp only [jn0]
        rw [show oI (some j) = nI j from rfl, if_neg g0, bd1_s, if_pos g4, bd1_s, if_neg (fun z => z rfl), if_pos (by decide), bd2_s, if_neg (fun z => z rfl), if_pos (by decide), bd1_s]
        exact tsZ_0 (by decide) h11 (by omega)
      have f3 : ∀ v, fr 0 [(71, 13)] Mr (im_setI Mr 71 13 v) := fun v => fr_F (by decide) fr_refl
      have f1 : fr 0 [(15, 9), (15, 15)] Mc (im_setI (im_setI Mc 15 15 (nI (a + j))) 15 9 (nI (kc + 1))) := fr_F (by decide) (fr_F (by decide) fr_refl)
      have q1 : ST (im_setI (im_setI Mc 15 15 (nI (a + j))) 15 9 (nI (kc + 1))) Mr false := ST_fr (fr_mono (by decide) (by decide) f1) fr_refl q
      have hc1 : CS (im_setI (im_setI Mc 15 15 (nI (a + j))) 15 9 (nI (kc + 1))) 0 T := CS_fr f1 (by decide +kernel) hc
      refine ⟨_, e1, _, e2, rfl, fl_if, q1.2.2.1, fun z => ⟨rfl, h11, ?_, false, fun v => po_S (a := a) (j := j) (ST_fr fr_refl (fr_mono (by decide) (by decide) (f3 v)) q1) hc1 (MS_fr (f3 v) (by decide +kernel) hm) h9 hN hR x1 (by omega) ef j4 rfl⟩⟩
      replace z : (if 2000 ≤ kc + 1 then (10 : Int32) else 0) = 0 := z
      by_cases c : 2000 ≤ kc + 1
      · rw [if_pos c] at z
        exact absurd z (by decide)
      · omega
    · replace eE : f_HTape_endOfForm Mc = some (if j ≤ 400 then nI (a + j) else -1) := eE
      rw [if_neg j4] at eE
      refine bad (-1) rfl (Or.inr ?_) eE
      rw [ef]
      have : (oI (some j) ≤ 400) = (j ≤ 400) := nIl (c := 400) (by omega) (by omega)
      rw [this]
      exact j4
