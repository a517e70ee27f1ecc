theorem cd_one {W V V' : Nat → Fin 256} {N c t w w' : Nat} (hN : N ≤ 255) (hc : c ≤ 30) (ht : 2 * t ≤ c) (h : CD W N c t V w) (h' : CD W N c t V' w') : w = w' ∧ ∀ i, i < N → V i = V' i := by
  obtain ⟨-, a2, a3⟩ := cls_all hN hc ht h
  obtain ⟨-, b2, b3⟩ := cls_all hN hc ht h'
  exact ⟨by omega, fun i hi => (a3 i hi).symm.trans (b3 i hi)⟩
theorem s_try {M : im_M} {W : Nat → Fin 256} {n N c t : Nat} (hN : N ≤ 255) (hc : c ≤ 30) (ht : 2 * t ≤ c) (h1 : 1 ≤ n) (hnt : n ≤ t) (hW : AF (im_i M 121) W N) : ed (f_MSquareRows_correct_L18 (nI N) (nI c) (nI t) (nI n) M) (fun r => (∃ M', r = Sum.inl (nI (n + 1), M') ∧ (¬ ∃ V, CD W N c t V n) ∧ AF (im_i M' 121) W N) ∨ (∃ M' V, r = Sum.inr (Sum.inr (nI n, M')) ∧ CD W N c t V n ∧ AF (im_i M' 121) V N)) := by
  unfold f_MSquareRows_correct_L18
  rw [if_nIlt (by omega) (by omega), if_neg (by omega)]
  obtain ⟨⟨x8, M8⟩, e8, -, S8, f8⟩ := s_isZ (c := c) hN hc hW
  rw [e8, bd2_s]
  replace S8 : AF (im_i M8 123) (syW W N) c := S8
  replace f8 : fr (2 ^ 123) [] M M8 := f8
  have W8 : AF (im_i M8 121) W N := by rw [fr_ar f8 (by decide)]; exact hW
  obtain ⟨⟨x9, M9⟩, e9, p9, f9⟩ := s_finds (sy := syW W N) (n := n) (by omega) h1 (by omega) hc hN S8
  rw [e9, bd2_s]
  replace f9 : fr (2 ^ 124 + 2 ^ 125 + 2 ^ 126) [] M8 M9 := f9
  have W9 : AF (im_i M9 121) W N := by rw [fr_ar f9 (by decide)]; exact W8
  have S9 : AF (im_i M9 123) (syW W N) c := by rw [fr_ar f9 (by decide)]; exact S8
  have en : nI n + 1 = nI (n + 1) := nI_add n 1
  simp only [jn1, en]
  rcases p9 with ⟨z, q⟩ | ⟨z, s0, k0, l0, P0⟩
  · replace z : x9 = 0 := z
    rw [if_pos z]
    refine ed_mk (Or.inl ⟨M9, rfl, ?_, W9⟩)
    rintro ⟨V, cd⟩
    rcases q with q | ⟨s, ks, ls⟩
    · exact q (ref_ns hN ht cd)
    · refine ls ?_
      rw [ref_rq hN ht h1 cd ks]
      exact cd.2.1.symm
  · replace z : x9 = 1 := z
    replace P0 : PLm M9 (RQ s0 n N) := P0
    rw [if_neg (by rw [z]; decide)]
    have lN : ∀ i, i < n → (RQ s0 n N).getD i 0 < N := fun i hi => List.mem_range.mp (List.mem_filter.mp (gd_mem (l := RQ s0 n N) (i := i) (by omega))).1
    obtain ⟨⟨x11, M11⟩, e11, p11, f11⟩ := s_mends (sy := syW W N) (l := RQ s0 n N) (n := n) (by omega) (show n ≤ c by omega) hc hN S9 W9 l0 lN P0
    rw [e11, bd2_s]
    replace f11 : fr (2 ^ 122 + 2 ^ 124 + 2 ^ 125) [] M9 M11 := f11
    have W11 : AF (im_i M11 121) W N := by rw [fr_ar f11 (by decide)]; exact W9
    rcases p11 with ⟨z1, q⟩ | ⟨z1, s, ks, sn, T11⟩
    · replace z1 : x11 = 0 := z1
      rw [if_pos z1]
      refine ed_mk (Or.inl ⟨M11, rfl, ?_, W11⟩)
      rintro ⟨V, cd⟩
      have eq := ref_rq hN ht h1 cd k0
      rw [eq] at q
      rcases q with q | ⟨s, ks, j, hj, sj⟩
      · exact q (ref_ns2 hN cd.2.1)
      · have := ref_e hN (show n ≤ c by omega) cd.1 cd.2.1 ks j hj
        rw [sj] at this
        have m := (wr_mem.mp (gd_mem (l := wrL W V N) (i := j) (by have := cd.2.1; omega))).2
        exact m (ga_eq0 this.symm)
    · replace z1 : x11 = 1 := z1
      replace T11 : AF (im_i M11 122) (twI W (RQ s0 n N) s n) N := T11
      rw [if_neg (by rw [z1]; decide)]
      obtain ⟨⟨x12, M12⟩, e12, p12, -, f12⟩ := s_isZ1 (c := c) hN hc T11
      rw [e12, bd2_s]
      replace p12 : x12 = if flg (twI W (RQ s0 n N) s n) N c = true then 1 else 0 := p12
      replace f12 : fr (2 ^ 123) [] M11 M12 := f12
      have W12 : AF (im_i M12 121) W N := by rw [fr_ar f12 (by decide)]; exact W11
      have T12 : AF (im_i M12 122) (twI W (RQ s0 n N) s n) N := by rw [fr_ar f12 (by decide)]; exact T11
      by_cases fl : flg (twI W (RQ s0 n N) s n) N c = true
      · rw [if_pos fl] at p12
        rw [if_neg (by rw [p12]; decide)]
        apply bd1_mk
        refine ed_mono (lp_for (S := Unit) (fun q _ (t : Int32 × im_M) => t.1 = nI q ∧ AF (im_i t.2 121) (twI W (RQ s0 n N) s n) q ∧ fr (2 ^ 121) [] M12 t.2) (Q := fun _ R => AF (im_i R 121) (twI W (RQ s0 n N) s n) N) N (fun _ s => s) ?_ ?_ (s := ()) (t := (0, M12)) ⟨rfl, fun j hj => by omega, fr_refl⟩) ?_
        · rintro q u ⟨x, M3⟩ hq ⟨e, h3, hf⟩
          replace e : x = nI q := e
          replace h3 : AF (im_i M3 121) (twI W (RQ s0 n N) s n) q := h3
          replace hf : fr (2 ^ 121) [] M12 M3 := hf
          subst e
          show ed (f_MSquareRows_correct_L72 (nI N) (nI n) (nI q) M3) _
          unfold f_MSquareRows_correct_L72
          rw [if_nIl (by omega) (by omega), if_neg (by omega), gd_pos (by rw [inb_nI (by omega)]; omega), gd_pos (by rw [inb_nI (by omega)]; omega), nI_clamp (by omega), fr_at hf (a := 122) (by decide), T12 q hq]
          refine ed_mk ⟨_, rfl, nI_add q 1, fun j hj => ?_, fr_I (by decide) hf⟩
          show im_i (im_setI M3 121 q _) 121 j = _
          by_cases d : j = q
          · subst d; exact hit
          · rw [sk1 (by omega)]; exact h3 j (by omega)
        · rintro u ⟨x, M3⟩ ⟨e, h3, hf⟩
          replace e : x = nI N := e
          subst e
          show ed (f_MSquareRows_correct_L72 (nI N) (nI n) (nI N) M3) _
          unfold f_MSquareRows_correct_L72
          rw [if_nIl (by omega) (by omega), if_pos (by omega)]
          exact ed_mk ⟨_, rfl, h3⟩
        · intro R hR
          exact ed_mk (Or.inr ⟨R, _, rfl, ref_only l0 sn fl hnt, hR⟩)
      · rw [if_neg fl] at p12
        rw [if_pos p12]
        refine ed_mk (Or.inl ⟨M12, rfl, ?_, W12⟩)
        rintro ⟨V, cd⟩
        have eq := ref_rq hN ht h1 cd k0
        rw [eq] at ks fl
        have es := ref_e hN (show n ≤ c by omega) cd.1 cd.2.1 ks
        have nd : (wrL W V N).Nodup := nd_rf _ _
        have ln := cd.2.1
        refine fl ((flg_iff c).mpr (fun k hk => ?_))
        rw [hsy_congr (V := V) (fun i hi => ?_)]
        · exact cd.1 k hk
        · by_cases m : i ∈ wrL W V N
          · obtain ⟨j, hj, e⟩ := gd_ex m
            rw [← e, tw_in n (by omega) (fun a b ha hb => gd_inj nd (by omega) (by omega)), es j (by omega), ga_ss]
          · rw [tw_out (l := wrL W V N) (i := i) n (fun j hj z => m (by rw [← z]; exact gd_mem (by omega)))]
            exact Classical.byContradiction (fun q => m (wr_mem.mpr ⟨hi, q⟩))
/-- the reference finds the codeword that is near enough, or says that there is none -/
theorem s_correct {M : im_M} {W : Nat → Fin 256} {N c t : Nat} (hN : N ≤ 255) (hc : c ≤ 30) (ht : 2 * t ≤ c) (hW : AF (im_i M 121) W N) : ed (f_MSquareRows_correct (nI N) (nI c) (nI t) M) (fun r => (∀ V w, CD W N c t V w → r.1 = nI w ∧ AF (im_i r.2 121) V N) ∧ ((¬ ∃ V w, CD W N c t V w) → r.1 = -1)) := by
  unfold f_MSquareRows_correct
  obtain ⟨⟨x1, M1⟩, e1, p1, -, f1⟩ := s_isZ (c := c) hN hc hW
  rw [e1, bd2_s]
  replace p1 : x1 = if flg W N c = true then 1 else 0 := p1
  replace f1 : fr (2 ^ 123) [] M M1 := f1
  have W1 : AF (im_i M1 121) W N := by rw [fr_ar f1 (by decide)]; exact hW
  by_cases fl : flg W N c = true
  · rw [if_pos fl] at p1
    rw [if_neg (by rw [p1]; decide)]
    have hz := (flg_iff c).mp fl
    refine ed_mk ⟨fun V w h => ?_, fun z => absurd ⟨W, 0, cd_self hz⟩ z⟩
    obtain ⟨w0, e⟩ := cd_zero hN (by omega) hz h
    rw [w0]
    refine ⟨rfl, fun i hi => ?_⟩
    rw [← e i hi]
    exact W1 i hi
  · rw [if_neg fl] at p1
    rw [if_pos p1]
    have nz : ∀ V, ¬ CD W N c t V 0 := by
      intro V cd
      refine fl ((flg_iff c).mpr (fun k hk => ?_))
      rw [hsy_congr (V := V) (fun i hi => Classical.byContradiction (fun q => ?_))]
      · exact cd.1 k hk
      · have := List.length_pos_of_mem (wr_mem.mpr ⟨hi, q⟩)
        have := cd.2.1
        omega
    refine bs1_q (P := fun _ => ∀ n, 1 ≤ n → n < t + 1 → ¬ ∃ V, CD W N c t V n) (R := fun (r : Int32 × im_M) => ∃ n V, r.1 = nI n ∧ CD W N c t V n ∧ AF (im_i r.2 121) V N) (lp_inv (fun m (s : Int32 × im_M) => ∃ n, n + m = t + 1 ∧ 1 ≤ n ∧ s.1 = nI n ∧ AF (im_i s.2 121) W N ∧ ∀ n', 1 ≤ n' → n' < n → ¬ ∃ V, CD W N c t V n') ?_ (k := t) ⟨1, by omega, Nat.le_refl _, rfl, W1, fun n' a b => by omega⟩) ?_ ?_
    · rintro m ⟨x6, M7⟩ ⟨n, hn, h1, e, W7, hz⟩
      replace e : x6 = nI n := e
      replace W7 : AF (im_i M7 121) W N := W7
      subst e
      show ed (f_MSquareRows_correct_L18 (nI N) (nI c) (nI t) (nI n) M7) _
      by_cases y : n ≤ t
      · refine ed_mono (s_try hN hc ht h1 y W7) ?_
        rintro r (⟨M', rfl, q1, q2⟩ | ⟨M', V, rfl, q1, q2⟩)
        · refine ⟨m - 1, by omega, n + 1, by omega, by omega, rfl, q2, fun n' a b => ?_⟩
          by_cases d : n' = n
          · rw [d]; exact q1
          · exact hz n' a (by omega)
        · exact ⟨n, V, rfl, q1, q2⟩
      · unfold f_MSquareRows_correct_L18
        rw [if_nIlt (by omega) (by omega), if_pos (by omega)]
        exact lpo_r (fun n' a b => hz n' a (by omega))
    · intro M2 hz
      refine ed_mk ⟨fun V w cd => ?_, fun _ => rfl⟩
      have hw := cd.2.2
      by_cases w0 : w = 0
      · rw [w0] at cd; exact absurd cd (nz V)
      · exact absurd ⟨V, cd⟩ (hz w (by omega) (by omega))
    · rintro ⟨x, R⟩ ⟨n, V, q1, q2, q3⟩
      refine ed_mk ⟨fun V' w cd => ?_, fun z => absurd ⟨V, n, q2⟩ z⟩
      obtain ⟨a, b⟩ := cd_one hN hc ht cd q2
      rw [a]
      refine ⟨q1, fun i hi => ?_⟩
      rw [b i hi]
      exact q3 i hi
