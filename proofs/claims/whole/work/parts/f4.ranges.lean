/-! NUMBERS LEFT OUT, RANGES, DATA, BOTH SIDES -/
def lo3 (w k : Nat) : Int32 := xa_0 ((12 : Int32) * nI w + (3 : Int32) * nI k)
theorem s_leaveOut {M : im_M} {w : Nat} (hw : w < 23) : ed (f_HSetter_leaveOut (nI w) M) (fun r => fr (2 ^ 9) [] M r ∧ ∀ k, k < 4 → im_i r 9 k = if w = 13 then im_i M 18 k else lo3 w k) := by
  unfold f_HSetter_leaveOut
  apply bd1_mk
  refine ed_mono (lp_inv (fun n (s : Int32 × im_M) => ∃ k : Nat, k + n = 4 ∧ s.1 = nI k ∧ fr (2 ^ 9) [] M s.2 ∧ ∀ j, j < k → im_i s.2 9 j = if w = 13 then im_i M 18 j else lo3 w j) (Q := fun r => fr (2 ^ 9) [] M r ∧ ∀ k, k < 4 → im_i r 9 k = if w = 13 then im_i M 18 k else lo3 w k) ?_ (k := 4) ⟨0, by omega, rfl, fr_refl, fun j hj => absurd hj (by omega)⟩) (fun r h => ed_mk h)
  rintro n ⟨x3, M4⟩ ⟨k, hk, e1, f, h⟩
  replace e1 : x3 = nI k := e1
  replace f : fr (2 ^ 9) [] M M4 := f
  replace h : ∀ j, j < k → im_i M4 9 j = if w = 13 then im_i M 18 j else lo3 w j := h
  subst e1
  show ed (f_HSetter_leaveOut_L2 (nI w) (nI k) M4) _
  unfold f_HSetter_leaveOut_L2
  have c4 : ((4 : Int32) ≤ nI k) = (4 ≤ k) := nIl (x := 4) (by omega) (by omega)
  have c13 : (nI w = 13) = (w = 13) := nIe (c := 13) (by omega) (by omega)
  simp only [c4, c13]
  by_cases h4 : 4 ≤ k
  · rw [if_pos h4]
    exact lpo_r ⟨f, fun j hj => h j (by omega)⟩
  · have ei : (12 : Int32) * nI w + (3 : Int32) * nI k = nI (12 * w + 3 * k) := by rw [nI_m, nI_m, nI_add]
    have e18 : im_i M4 18 k = im_i M 18 k := f.1 18 k (by decide) (by simp)
    have vv : (if ¬ w = 13 then gd (inb ((12 : Int32) * nI w + (3 : Int32) * nI k) 276) <| some (xa_0 ((12 : Int32) * nI w + (3 : Int32) * nI k)) else gd (inb (nI k) 4) <| some (im_i M4 18 (Int32.toNatClampNeg (nI k)))) = some (if w = 13 then im_i M 18 k else lo3 w k) := by
      by_cases c : w = 13
      · rw [if_neg (fun z => z c), gd_pos (by rw [inb_nI (by omega)]; omega), nI_clamp (by omega), e18, if_pos c]
      · rw [if_pos c, if_neg c, gd_pos (by rw [ei, inb_nI (by omega)]; omega)]
        rfl
    rw [if_neg h4, vv, bd1_s, gd_pos (by rw [inb_nI (by omega)]; omega), nI_clamp (by omega)]
    refine lpo_l (n - 1) (by omega) ⟨k + 1, by omega, nI_add k 1, fr_I (by decide) f, fun j hj => ?_⟩
    rw [mi_I, if_pos rfl]
    by_cases e : j = k
    · rw [if_pos e, e]
    · rw [if_neg e]; exact h j (by omega)
theorem s_presets {M : im_M} {w : Nat} (hw : w < 23) : ed (lp (uc2 (f_MScriptRows_takeNumbers_L7 (lc w) (nI (hs w)))) (0, M)) (fun r => fr (2 ^ 78) [] M r ∧ ∀ k, k < hs w → im_i r 78 k = if w = 13 then im_i M 80 k else lo3 w k) := by
  have h4 : hs w ≤ 4 := (hs_t ⟨w, hw⟩).2
  refine lp_inv (fun n (s : Int32 × im_M) => ∃ k : Nat, k + n = hs w ∧ s.1 = nI k ∧ fr (2 ^ 78) [] M s.2 ∧ ∀ j, j < k → im_i s.2 78 j = if w = 13 then im_i M 80 j else lo3 w j) ?_ (k := hs w) ⟨0, by omega, rfl, fr_refl, fun j hj => absurd hj (by omega)⟩
  rintro n ⟨x5, M6⟩ ⟨k, hk, e1, f, h⟩
  replace e1 : x5 = nI k := e1
  replace f : fr (2 ^ 78) [] M M6 := f
  replace h : ∀ j, j < k → im_i M6 78 j = if w = 13 then im_i M 80 j else lo3 w j := h
  subst e1
  show ed (f_MScriptRows_takeNumbers_L7 (lc w) (nI (hs w)) (nI k) M6) _
  unfold f_MScriptRows_takeNumbers_L7
  rw [if_nIl (by omega) (by omega)]
  by_cases c : hs w ≤ k
  · rw [if_pos c]
    exact lpo_r ⟨f, fun j hj => h j (by omega)⟩
  · have e80 : im_i M6 80 k = im_i M 80 k := f.1 80 k (by decide) (by simp)
    have vv : f_MScriptRows_preset (lc w) (nI k) M6 = some (if w = 13 then im_i M 80 k else lo3 w k) := by
      by_cases c : w = 13
      · subst c
        rw [if_pos rfl, ← e80]
        have : lc 13 = 84 := by decide +kernel
        unfold f_MScriptRows_preset
        rw [this, if_neg (by decide), if_neg (by decide), if_neg (by decide), if_neg (by decide), if_neg (by decide), if_neg (by decide), if_pos rfl, gd_pos (by rw [inb_nI (by omega)]; omega), nI_clamp (by omega)]
      · rw [if_neg c]
        exact pre_t ⟨w, hw⟩ c ⟨k, by omega⟩ (by show k < hs w; omega)
    rw [if_neg c, vv, bd1_s, gd_pos (by rw [inb_nI (by omega)]; omega), nI_clamp (by omega)]
    refine lpo_l (n - 1) (by omega) ⟨k + 1, by omega, nI_add k 1, fr_I (by decide) f, fun j hj => ?_⟩
    rw [mi_I, if_pos rfl]
    by_cases e : j = k
    · rw [if_pos e, e]
    · rw [if_neg e]; exact h j (by omega)
/-- letter w's numbers, read by both -/
theorem two_take {Mc Mr : im_M} {d w : Nat} {S : List Int32} (hw : w < 23) (hc : CS Mc d S) (hm : MS Mr S) (hT : ∀ k, k < 4 → w = 13 → im_i Mr 80 k = im_i Mc 18 k) : ed (bd1 (f_HSetter_leaveOut (nI w) Mc) fun (M8 : im_M) => if ¬ nI w = 2 then gd (inb (nI w) 23) <| f_HTape_takeNumbers (xa_1 (nI w)) M8 else f_HTape_takeNumberAndComma M8) (fun r1 => ed (f_MScriptRows_takeNumbers (lc w) Mr) (fun r2 => NDs Mc Mr r1 r2 d (hs w))) := by
  obtain ⟨M8, e8, f8, h8⟩ := s_leaveOut (M := Mc) hw
  obtain ⟨N8, n8, g8, k8⟩ := s_presets (M := Mr) hw
  have h4 : hs w ≤ 4 := (hs_t ⟨w, hw⟩).2
  have hx : xa_1 (nI w) = nI (hs w) := (hs_t ⟨w, hw⟩).1
  have q1 : CS M8 d S := CS_fr f8 (by decide +kernel) hc
  have q2 : MS N8 S := MS_fr g8 (by decide +kernel) hm
  have hN : ∀ j, j < hs w → im_i N8 78 j = im_i M8 9 j := fun j hj => by
    rw [h8 j (by omega), k8 j hj]
    by_cases z : w = 13
    · rw [if_pos z, if_pos z]
      exact hT j (by omega) z
    · rw [if_neg z, if_neg z]
  unfold f_MScriptRows_takeNumbers
  rw [e8, bd1_s, show f_MScriptRows_numbers (lc w) Mr = some (nI (hs w)) from num_t ⟨w, hw⟩]
  have c2 : (nI w = 2) = (w = 2) := nIe (c := 2) (by omega) (by omega)
  simp only [c2, bd1_s]
  rw [n8]
  simp only [bd1_s]
  have fin : ∀ r1 r2, NDs M8 N8 r1 r2 d (hs w) → NDs Mc Mr r1 r2 d (hs w) := fun r1 r2 h => ⟨fr_tr h.1 (fr_mono (by decide) (by decide) f8), fr_tr h.2.1 (fr_mono (by decide) (by decide) g8), h.2.2⟩
  by_cases c : w = 2
  · subst c
    have e1 : hs 2 = 1 := by decide +kernel
    have e75 : lc 2 = 75 := by decide +kernel
    rw [if_neg (fun z => z rfl), e75, e1]
    rw [e1] at fin
    refine ed_mono (two_comma q1 q2 (hN 0 (by omega))) (fun r1 h => ed_mono h (fun r2 h => fin r1 r2 h))
  · rw [if_pos c, gd_pos (by rw [inb_nI (by omega)]; omega), hx]
    have e75 : ¬ lc w = 75 := fun z => c ((lc_84 ⟨w, hw⟩).2.1.mp z)
    exact ed_mono (two_numbers h4 e75 q1 q2 hN) (fun r1 h => ed_mono h (fun r2 h => fin r1 r2 h))
/-- ranges -/
def RG3 (M : im_M) (w k : Nat) : Prop := ¬ im_i M 9 k < xa_0 (((12 : Int32) * nI w + (3 : Int32) * nI k) + 1) ∧ im_i M 9 k ≤ xa_0 (((12 : Int32) * nI w + (3 : Int32) * nI k) + 2)
theorem two_ranges {Mc Mr : im_M} {w : Nat} (hw : w < 23) (hN : ∀ j, j < hs w → im_i Mr 78 j = im_i Mc 9 j) : (f_HSetter_inRanges (nI w) Mc = some 1 ∧ f_MScriptRows_testRanges (lc w) Mr = some 0 ∧ ∀ k, k < hs w → RG3 Mc w k) ∨ (f_HSetter_inRanges (nI w) Mc = some 0 ∧ f_MScriptRows_testRanges (lc w) Mr = some 5) := by
  have h4 : hs w ≤ 4 := (hs_t ⟨w, hw⟩).2
  have hx : xa_1 (nI w) = nI (hs w) := (hs_t ⟨w, hw⟩).1
  have L := lp_two (b1 := uc1 (f_HSetter_inRanges_L2 (nI w) Mc)) (b2 := uc1 (f_MScriptRows_testRanges_L2 (lc w) Mr)) (fun n (s1 : Int32) (s2 : Int32) => ∃ k : Nat, k + n = hs w ∧ s1 = nI k ∧ s2 = nI k ∧ ∀ j, j < k → RG3 Mc w j) (Q := fun u1 u2 => (u1 = .inl () ∧ u2 = .inl () ∧ ∀ k, k < hs w → RG3 Mc w k) ∨ (u1 = .inr 0 ∧ u2 = .inr 5)) ?_ (k := hs w) (s1 := 0) (s2 := 0) ⟨0, by omega, rfl, rfl, fun j hj => absurd hj (by omega)⟩
  · obtain ⟨r1, e1, r2, e2, h⟩ := L
    unfold f_HSetter_inRanges f_MScriptRows_testRanges
    rw [e1, e2]
    rcases h with ⟨rfl, rfl, h⟩ | ⟨rfl, rfl⟩
    · exact Or.inl ⟨rfl, rfl, h⟩
    · exact Or.inr ⟨rfl, rfl⟩
  · rintro n x3 y3 ⟨k, hk, e1, e2, h⟩
    subst e1 e2
    show ed (f_HSetter_inRanges_L2 (nI w) Mc (nI k)) (tw _ _ n (nI k) (f_MScriptRows_testRanges_L2 (lc w) Mr (nI k)))
    unfold f_HSetter_inRanges_L2 f_MScriptRows_testRanges_L2
    rw [gd_pos (by rw [inb_nI (by omega)]; omega), hx, if_nIl (by omega) (by omega), show f_MScriptRows_numbers (lc w) Mr = some (nI (hs w)) from num_t ⟨w, hw⟩, bd1_s, if_nIl (by omega) (by omega)]
    by_cases c : hs w ≤ k
    · rw [if_pos c, if_pos c]
      exact two_r rfl (Or.inl ⟨rfl, rfl, fun j hj => h j (by omega)⟩)
    · have t := ran_t (M := Mr) ⟨w, hw⟩ ⟨k, by omega⟩ (by show k < hs w; omega)
      replace t : f_MScriptRows_range (lc w) ((2 : Int32) * nI k) Mr = some (xa_0 (((12 : Int32) * nI w + (3 : Int32) * nI k) + 1)) ∧ f_MScriptRows_range (lc w) ((2 : Int32) * nI k + 1) Mr = some (xa_0 (((12 : Int32) * nI w + (3 : Int32) * nI k) + 2)) := t
      have e12 : ∀ c : Nat, c < 3 → inb (((12 : Int32) * nI w + (3 : Int32) * nI k) + nI c) 276 := fun c hc => by
        rw [nI_m, nI_m, nI_add, nI_add, inb_nI (by omega)]
        show 12 * w + 3 * k + c < 276
        omega
      have e121 : inb (((12 : Int32) * nI w + (3 : Int32) * nI k) + 1) 276 := e12 1 (by omega)
      have e122 : inb (((12 : Int32) * nI w + (3 : Int32) * nI k) + 2) 276 := e12 2 (by omega)
      have k4 : inb (nI k) 4 := by rw [inb_nI (by omega)]; omega
      have kc : Int32.toNatClampNeg (nI k) = k := nI_clamp (by omega)
      simp only [if_neg c, gd_pos k4, gd_pos e121, gd_pos e122, t.1, t.2, bd1_s, kc, hN k (by omega)]
      by_cases d1 : im_i Mc 9 k < xa_0 (((12 : Int32) * nI w + (3 : Int32) * nI k) + 1)
      · rw [if_pos d1, if_pos d1]
        exact two_r rfl (Or.inr ⟨rfl, rfl⟩)
      · rw [if_neg d1, if_neg d1]
        by_cases d2 : im_i Mc 9 k ≤ xa_0 (((12 : Int32) * nI w + (3 : Int32) * nI k) + 2)
        · rw [if_pos d2, if_pos d2]
          refine two_l (n - 1) (by omega) (s2 := nI k + 1) rfl ⟨k + 1, by omega, nI_add k 1, nI_add k 1, fun j hj => ?_⟩
          by_cases e : j = k
          · rw [e]; exact ⟨d1, d2⟩
          · exact h j (by omega)
        · rw [if_neg d2, if_neg d2]
          exact two_r rfl (Or.inr ⟨rfl, rfl⟩)
/-- hexadecimal figures -/
def hvN (n : Nat) : Int32 := if 48 ≤ n ∧ n ≤ 57 then nI (n - 48) else if 65 ≤ n ∧ n ≤ 70 then nI (n - 55) else if 97 ≤ n ∧ n ≤ 102 then nI (n - 87) else -1
theorem hex_C {M : im_M} (n : Fin 256) : f_HTape_hexValue (nI n.val) M = some (hvN n.val) := by
  unfold f_HTape_hexValue
  simp only [jn0]
  revert n
  decide +kernel
theorem hex_M {M : im_M} (n : Fin 256) : f_MScriptRows_hex (nI n.val) M = some (hvN n.val) := by
  unfold f_MScriptRows_hex f_MScriptRows_isDigit
  simp only [jn0]
  revert n
  decide +kernel
theorem hv_b {n : Nat} : hvN n = -1 ∨ ∃ a, a < 16 ∧ hvN n = nI a := by
  unfold hvN
  split
  · exact Or.inr ⟨n - 48, by omega, rfl⟩
  · split
    · exact Or.inr ⟨n - 55, by omega, rfl⟩
    · split
      · exact Or.inr ⟨n - 87, by omega, rfl⟩
      · exact Or.inl rfl
theorem hex_e {M M' : im_M} : f_HTape_hexValue (-1) M = some (-1) ∧ f_MScriptRows_hex (-1) M' = some (-1) := by
  unfold f_HTape_hexValue f_MScriptRows_hex f_MScriptRows_isDigit
  simp only [jn0]
  exact ⟨rfl, rfl⟩
theorem nar_by : ∀ v : Fin 256, (vp_nar .byte ((Int32.toInt8 (nI v.val)).toInt32)) &&& 255 = nI v.val := by decide +kernel
/-- the head is a byte, or there is none -/
theorem hd_c {M : im_M} {d : Nat} {S : List Int32} (q : CS M d S) : nxB S = -1 ∨ ∃ n T, n < 256 ∧ S = nI n :: T := by
  rcases CS_head q with ⟨rfl, _⟩ | ⟨T, e, _, rfl, _⟩ | h
  · exact Or.inl rfl
  · exact Or.inl rfl
  · exact Or.inr h
