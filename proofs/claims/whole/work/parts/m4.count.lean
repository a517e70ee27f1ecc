/-! THE FEWEST SYMBOLS, COUNTED BY THE CLASS -/
theorem s_countFewest {M : im_M} {t : Nat → Nat} {n : Nat} (h : SG M n t) : ed (f_HBars_countFewest M) (fun R => CFW R n t 0 ∧ fr (2 ^ 35) [] M R) := by
  obtain ⟨h0, h1, _⟩ := id h
  unfold f_HBars_countFewest f_Arrays_fill_2 f_Arrays_rangeCheck
  have e3 : (3 : Int32) * nI n = nI (3 * n) := nI_m 3
  have e4 : nI (3 * n) + 3 = nI (3 * n + 3) := nI_add _ 3
  have c1 : nI (3 * n) ≤ nI (3 * n + 3) := by rw [nIl (by omega) (by omega)]; omega
  have c2 : (0 : Int32) ≤ nI (3 * n) := by rw [show (0 : Int32) = nI 0 from rfl, nIl (by omega) (by omega)]; omega
  have c3 : nI (3 * n + 3) ≤ 198 := by rw [show (198 : Int32) = nI 198 from rfl, nIl (by omega) (by omega)]; omega
  rw [h0, e3, e4, if_pos c1, if_pos c2, if_pos c3]
  apply bd1_mk
  show ed (bd1 (lp (uc2 (f_Arrays_fill_2_L10 (nI (3 * n + 3)) 0)) (nI (3 * n), M)) fun (M7 : im_M) => some M7) _
  apply bd1_mk
  refine ed_mono (lp_inv (fun m (s : Int32 × im_M) => ∃ k : Nat, k + m = 3 ∧ s.1 = nI (3 * n + k) ∧ (∀ j, j < k → im_i s.2 35 (3 * n + j) = 0) ∧ fr (2 ^ 35) [] M s.2) (Q := fun R => (∀ j, j < 3 → im_i R 35 (3 * n + j) = 0) ∧ fr (2 ^ 35) [] M R) ?_ (k := 3) ⟨0, rfl, rfl, fun j hj => absurd hj (Nat.not_lt_zero _), fr_refl⟩) ?_
  · rintro m ⟨x5, M6⟩ ⟨k, hk, e1, e2, hf⟩
    replace e1 : x5 = nI (3 * n + k) := e1
    replace e2 : ∀ j, j < k → im_i M6 35 (3 * n + j) = 0 := e2
    replace hf : fr (2 ^ 35) [] M M6 := hf
    subst e1
    show ed (f_Arrays_fill_2_L10 (nI (3 * n + 3)) 0 (nI (3 * n + k)) M6) _
    unfold f_Arrays_fill_2_L10
    rw [if_nIl (by omega) (by omega)]
    by_cases c : 3 * n + 3 ≤ 3 * n + k
    · rw [if_pos c]
      obtain rfl : k = 3 := by omega
      exact lpo_r ⟨e2, hf⟩
    · rw [if_neg c, gd_pos (by rw [inb_nI (by omega)]; omega), nI_clamp (by omega)]
      refine lpo_l (m - 1) (by omega) ⟨k + 1, by omega, nI_add (3 * n + k) 1, fun j hj => ?_, fr_I (by decide) hf⟩
      show im_i (im_setI M6 35 (3 * n + k) 0) 35 (3 * n + j) = 0
      by_cases e : j = k
      · subst e; exact hit
      · rw [sk1 (by omega)]; exact e2 j (by omega)
  · rintro M1 ⟨z1, f1⟩
    refine ed_mk ?_
    have s1 := SG_fr f1 (by decide +kernel) h
    have em : nI n - 1 = iZ ((n : Int) - 1) := by rw [iZ_nI, show (1 : Int32) = iZ 1 from rfl, iZ_sub]
    rw [s1.1, em]
    apply bd1_mk
    refine ed_mono (lp_inv (fun m (s : Int32 × im_M) => m ≤ n ∧ s.1 = iZ ((m : Int) - 1) ∧ CFW s.2 n t m ∧ fr (2 ^ 35) [] M s.2) (Q := fun R => CFW R n t 0 ∧ fr (2 ^ 35) [] M R) ?_ (k := n) ⟨Nat.le_refl _, rfl, fun i s h1 h2 hs => ?_, f1⟩) (fun R h => ed_mk h)
    · rintro m ⟨x3, M4⟩ ⟨hm, e1, hC, hf⟩
      replace e1 : x3 = iZ ((m : Int) - 1) := e1
      replace hC : CFW M4 n t m := hC
      replace hf : fr (2 ^ 35) [] M M4 := hf
      subst e1
      show ed (f_HBars_countFewest_L29 (iZ ((m : Int) - 1)) M4) _
      unfold f_HBars_countFewest_L29
      have k0 : (iZ ((m : Int) - 1) < 0) = ((m : Int) - 1 < 0) := iZ_lt (b := 0) (by omega) (by omega)
      simp only [k0]
      by_cases c : (m : Int) - 1 < 0
      · rw [if_pos c]
        obtain rfl : m = 0 := by omega
        exact lpo_r ⟨hC, hf⟩
      · obtain ⟨i, rfl⟩ : ∃ i, m = i + 1 := ⟨m - 1, by omega⟩
        have ei : iZ (((i + 1 : Nat) : Int) - 1) = nI i := by rw [iZ_nI]; congr 1; omega
        have s4 := SG_fr hf (by decide +kernel) h
        have hi : i < n := by omega
        rw [if_neg c, ei]
        have bd : ∀ s, s < 3 → byV t n i s (FW t n (i + 1)) (FW t n (i + 2)) ≤ 3000 := fun s hs => by
          have b1 := FW_b (t := t) (n := n) (n - (i + 1)) (i + 1) s rfl hs
          have b2 := FW_b (t := t) (n := n) (n - (i + 2)) (i + 2) s rfl hs
          have := byV_b (t := t) (n := n) (i := i) (s := s) (a := FW t n (i + 1)) (b := FW t n (i + 2)) (B := 2000) (by omega) (by omega) (by omega)
          omega
        have q0 := s_bySign (s := 0) s4 hC hi (by omega)
        have q1 := s_bySign (s := 1) s4 hC hi (by omega)
        have q2 := s_bySign (s := 2) s4 hC hi (by omega)
        have b0 := bd 0 (by omega)
        have b1 := bd 1 (by omega)
        have b2 := bd 2 (by omega)
        have F0 : FW t n i 0 = _ := FW_s (s := 0) hi
        have F1 : FW t n i 1 = _ := FW_s (s := 1) hi
        have F2 : FW t n i 2 = _ := FW_s (s := 2) hi
        replace F0 : FW t n i 0 = min (byV t n i 0 (FW t n (i + 1)) (FW t n (i + 2))) (1 + min (byV t n i 1 (FW t n (i + 1)) (FW t n (i + 2))) (byV t n i 2 (FW t n (i + 1)) (FW t n (i + 2)))) := F0
        replace F1 : FW t n i 1 = min (byV t n i 1 (FW t n (i + 1)) (FW t n (i + 2))) (1 + min (byV t n i 0 (FW t n (i + 1)) (FW t n (i + 2))) (byV t n i 2 (FW t n (i + 1)) (FW t n (i + 2)))) := F1
        replace F2 : FW t n i 2 = min (byV t n i 2 (FW t n (i + 1)) (FW t n (i + 2))) (1 + min (byV t n i 0 (FW t n (i + 1)) (FW t n (i + 2))) (byV t n i 1 (FW t n (i + 1)) (FW t n (i + 2)))) := F2
        replace q0 : f_HBars_fewestBySign (nI i) 0 M4 = some (nI (byV t n i 0 (FW t n (i + 1)) (FW t n (i + 2)))) := q0
        replace q1 : f_HBars_fewestBySign (nI i) 1 M4 = some (nI (byV t n i 1 (FW t n (i + 1)) (FW t n (i + 2)))) := q1
        replace q2 : f_HBars_fewestBySign (nI i) 2 M4 = some (nI (byV t n i 2 (FW t n (i + 1)) (FW t n (i + 2)))) := q2
        generalize byV t n i 0 (FW t n (i + 1)) (FW t n (i + 2)) = y0 at *
        generalize byV t n i 1 (FW t n (i + 1)) (FW t n (i + 2)) = y1 at *
        generalize byV t n i 2 (FW t n (i + 1)) (FW t n (i + 2)) = y2 at *
        have o1 : ∀ a : Nat, (1 : Int32) + nI a = nI (1 + a) := fun a => nI_add 1 a
        have i0 : (3 : Int32) * nI i = nI (3 * i) := nI_m 3
        have i1 : nI (3 * i) + 1 = nI (3 * i + 1) := nI_add _ 1
        have i2 : nI (3 * i) + 2 = nI (3 * i + 2) := nI_add _ 2
        rw [q0, bd1_s, q1, bd1_s, q2, bd1_s, m_minN (by omega) (by omega), bd1_s, o1, m_minN (by omega) (by omega), bd1_s, ← F0, i0, gd_pos (by rw [inb_nI (by omega)]; omega), m_minN (by omega) (by omega), bd1_s, o1, m_minN (by omega) (by omega), bd1_s, ← F1, i1, gd_pos (by rw [inb_nI (by omega)]; omega), m_minN (by omega) (by omega), bd1_s, o1, m_minN (by omega) (by omega), bd1_s, ← F2, i2, gd_pos (by rw [inb_nI (by omega)]; omega), nI_clamp (by omega), nI_clamp (by omega), nI_clamp (by omega)]
        refine lpo_l i (by omega) ⟨by omega, ?_, fun j s j1 j2 hs => ?_, fr_I (by decide) (fr_I (by decide) (fr_I (by decide) hf))⟩
        · show nI i + (-1) = iZ ((i : Int) - 1)
          rw [iZ_nI, show (-1 : Int32) = iZ (-1) from rfl, iZ_add]
          rfl
        · show im_i (im_setI (im_setI (im_setI M4 35 (3 * i) (nI (FW t n i 0))) 35 (3 * i + 1) (nI (FW t n i 1))) 35 (3 * i + 2) (nI (FW t n i 2))) 35 (3 * j + s) = nI (FW t n j s)
          by_cases e : j = i
          · subst e
            have : s = 0 ∨ s = 1 ∨ s = 2 := by omega
            rcases this with rfl | rfl | rfl
            · rw [sk1 (by omega), sk1 (by omega)]; exact hit
            · rw [sk1 (by omega)]; exact hit
            · exact hit
          · rw [sk1 (by omega), sk1 (by omega), sk1 (by omega)]
            exact hC j s (by omega) j2 hs
    · obtain rfl : i = n := by omega
      rw [FW_n]
      exact z1 s hs
