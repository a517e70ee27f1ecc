/-! THE CLASS LOOKS EVERYWHERE -/
theorem s_lookCs {M : im_M} {W H m lim lo hi x y : Nat} {D : Nat → Nat → Bool} (L : LK M W H m lim D) (hlo : 1 ≤ lo ∧ lo ≤ m ∧ m ≤ hi) (hx : x + 7 * m ≤ W) (hy : y + 7 * m ≤ H) (hF : FS M D (SC W H D lo hi lim m (cde x y 0 0))) : ed (lp (uc2 (f_HFinder_lookAtAll_L45 (nI (if H < W then H else W)) (nI y) (nI x))) (0, M)) (sQ (fun M3 => frL M M3 ∧ FS M3 D (SC W H D lo hi lim m (cde (x + 1) y 0 0))) (fun t => t.1 = 0 ∧ frL M t.2 ∧ OV (StP W H D lo hi lim))) := by
  obtain ⟨_, hm1, hm, hl, hW, hH⟩ := id L.2.1
  refine lp_inv (fun n (s : Int32 × im_M) => ∃ c : Nat, c + n = 4 ∧ s.1 = nI c ∧ frL M s.2 ∧ FS s.2 D (SC W H D lo hi lim m (cde x y c 0))) ?_ (k := 4) ⟨0, by omega, rfl, frL_refl, hF⟩
  rintro n ⟨x14, M15⟩ ⟨c, hcn, e1, f, h⟩
  replace e1 : x14 = nI c := e1
  replace f : frL M M15 := f
  replace h : FS M15 D (SC W H D lo hi lim m (cde x y c 0)) := h
  subst e1
  have L15 := LK_L f L
  obtain ⟨⟨q1, q2, qw, qh⟩, _⟩ := id L15.2.1
  have ei : nI y * 512 + nI x = nI (512 * y + x) := by rw [nI_n, nI_mul, nI_add, Nat.mul_comm]
  have vv : im_i M15 61 (512 * y + x) = iZ (cwE D m lim x y) := L15.2.2 x y (by omega) (by omega)
  have cb := cwE_b (D := D) (m := m) (lim := lim) (x := x) (y := y)
  show ed (f_HFinder_lookAtAll_L45 _ (nI y) (nI x) (nI c) M15) _
  unfold f_HFinder_lookAtAll_L45
  have c4 : ((4 : Int32) ≤ nI c) = (4 ≤ c) := nIl (x := 4) (by omega) (by omega)
  simp only [c4]
  by_cases h4 : 4 ≤ c
  · rw [if_pos h4]
    obtain rfl : c = 4 := by omega
    refine lpo_r ⟨f, ?_⟩
    have e : cde x y 4 0 = cde (x + 1) y 0 0 := by unfold cde; omega
    rw [← e]
    exact h
  · rw [if_neg h4, ei, gd_pos (by rw [inb_nI (by omega)]; omega), nI_clamp (by omega), vv, s_leadsOn L15.2.1 (by omega), bd1_s]
    by_cases c3 : cwE D m lim x y ≤ ((lim / 3 : Nat) : Int)
    · rw [if_pos c3, if_neg (by decide)]
      have skip : (∀ k, StP W H D lo hi lim k → km k = m → egE D m x y c ≤ ((lim / 3 : Nat) : Int) → hEd W H m x y c → False) → ed (some (Sum.inl (nI c + 1, M15))) (lpo (fun n (s : Int32 × im_M) => ∃ c : Nat, c + n = 4 ∧ s.1 = nI c ∧ frL M s.2 ∧ FS s.2 D (SC W H D lo hi lim m (cde x y c 0))) (sQ (fun M3 => frL M M3 ∧ FS M3 D (SC W H D lo hi lim m (cde (x + 1) y 0 0))) (fun t : Int32 × im_M => t.1 = 0 ∧ frL M t.2 ∧ OV (StP W H D lo hi lim))) n) := by
        intro hn
        refine lpo_l (n - 1) (by omega) ⟨c + 1, by omega, nI_add c 1, f, FS_S (SC_gap (by unfold cde; omega) ?_) h⟩
        intro k hk hkm h1 h2
        obtain ⟨f', X, Y, f4, ff, eX, eY, ep, hrg, hed, hX7, hY7, hX⟩ := pc_k hk hW hlo.1
        have k64 := kv_lt (k := k)
        rw [ep] at h1 h2
        unfold cde at h1 h2
        rw [show (y * 512 + x) * 4 + (c + 1) = (y * 512 + x) * 4 + c + 1 from (Nat.add_assoc _ _ _).symm] at h2
        obtain ⟨hP, _⟩ := cde_g (A := (y * 512 + x) * 4 + c) (B := (Y * 512 + X) * 4 + f') (a := 0) k64 h1 h2
        obtain ⟨hP, hfc⟩ := eq4 f4 (show c < 4 by omega) hP
        obtain ⟨hY, hX2⟩ := eq4 hX (show x < 512 by omega) hP
        rw [hkm, hfc, hY, hX2] at hrg hed
        exact hn k hk hkm hrg hed
      obtain ⟨b, eb, hb⟩ := s_hasEdges L15.2.1 (X := x) (Y := y) (c := c) (by omega) (by omega) (by omega)
      rw [eb, bd1_s]
      by_cases b0 : b = 0
      · have hn : ¬ hEd W H m x y c := by
          rcases hb with ⟨_, hb⟩ | ⟨hb, _⟩
          · exact hb
          · rw [b0] at hb; exact absurd hb (by decide)
        show ed (if b = 0 then _ else _) _
        rw [if_pos b0]
        exact skip (fun k _ _ _ z => hn z)
      · have hy2 : hEd W H m x y c := by
          rcases hb with ⟨hb, _⟩ | ⟨_, hb⟩
          · exact absurd hb b0
          · exact hb
        have wb := ewE_b (D := D) (lim := lim) hy2 hm hl
        have wg := eg_ge (D := D) hy2
        show ed (if b = 0 then _ else _) _
        rw [if_neg b0, s_edged L15.1 L15.2.1 L15.2.2 (by omega) hy2, bd1_s, s_leadsOn L15.2.1 (by omega), bd1_s]
        by_cases c5 : ewE D m lim x y c ≤ ((lim / 3 : Nat) : Int)
        · rw [if_pos c5, if_neg (by decide)]
          have hg : egE D m x y c ≤ ((lim / 3 : Nat) : Int) := by
            unfold ewE at c5
            split at c5 <;> omega
          apply bd2_mk
          refine ed_mono (s_lookFrom L15 hlo (by omega) (by omega) (by omega) hg h) ?_
          rintro ⟨x21, M21⟩ ⟨f2, h2⟩
          have f3 : frL M M21 := fr_tr f2 f
          rcases h2 with ⟨e, h2⟩ | ⟨e, h2⟩
          · replace e : x21 = 1 := e
            subst e
            show ed (if ¬ (1 : Int32) = 0 then _ else _) _
            rw [if_pos (by decide)]
            exact lpo_l (n - 1) (by omega) ⟨c + 1, by omega, nI_add c 1, f3, h2⟩
          · replace e : x21 = 0 := e
            subst e
            show ed (if ¬ (0 : Int32) = 0 then _ else _) _
            rw [if_neg (fun z => z rfl)]
            exact lpo_r ⟨rfl, f3, h2⟩
        · rw [if_neg c5, if_pos rfl]
          refine skip (fun k _ _ z _ => c5 ?_)
          unfold ewE
          rw [if_pos (by omega)]
          exact z
    · rw [if_neg c3, if_pos rfl]
      refine lpo_r ⟨f, FS_S (SC_gap (by unfold cde; omega) ?_) h⟩
      intro k hk hkm h1 h2
      obtain ⟨f', X, Y, f4, ff, eX, eY, ep, hrg, hed, hX7, hY7, hX⟩ := pc_k hk hW hlo.1
      have k64 := kv_lt (k := k)
      rw [ep] at h1 h2
      unfold cde at h1 h2
      rw [show y * 512 + (x + 1) = y * 512 + x + 1 from (Nat.add_assoc _ _ _).symm] at h2
      have hP := cde_p (P := y * 512 + x) (Q := Y * 512 + X) k64 f4 (show c < 4 by omega) h1 h2
      obtain ⟨hY, hX2⟩ := eq4 hX (show x < 512 by omega) hP
      have wg := eg_ge (D := D) hed
      rw [hkm, hY, hX2] at hrg wg
      refine c3 ?_
      unfold cwE
      rw [if_pos (by omega)]
      omega
theorem s_lookAll {M : im_M} {W H m lim lo hi : Nat} {D : Nat → Nat → Bool} (L : LK M W H m lim D) (hlo : 1 ≤ lo ∧ lo ≤ m ∧ m ≤ hi) (hr : 7 * m ≤ W ∧ 7 * m ≤ H) (hF : FS M D (fun k => StP W H D lo hi lim k ∧ km k < m)) : ed (f_HFinder_lookAtAll (nI (if H < W then H else W)) M) (fun r => frL M r.2 ∧ ((r.1 = 1 ∧ FS r.2 D (fun k => StP W H D lo hi lim k ∧ km k < m + 1)) ∨ (r.1 = 0 ∧ OV (StP W H D lo hi lim)))) := by
  obtain ⟨⟨g1, g2, gw, gh⟩, hm1, hm, hl, hW, hH⟩ := id L.2.1
  unfold f_HFinder_lookAtAll
  refine bs1_q (P := fun M3 => frL M M3 ∧ FS M3 D (fun k => StP W H D lo hi lim k ∧ km k < m + 1)) (R := fun t => t.1 = 0 ∧ frL M t.2 ∧ OV (StP W H D lo hi lim)) (lp_inv (fun n (s : Int32 × im_M) => ∃ y : Nat, y + n = H - 7 * m + 1 ∧ s.1 = nI y ∧ frL M s.2 ∧ FS s.2 D (SC W H D lo hi lim m (cde 0 y 0 0))) ?_ (k := H - 7 * m + 1) ⟨0, by omega, rfl, frL_refl, ?_⟩) (fun t h => ed_mk ⟨h.1, Or.inl ⟨rfl, h.2⟩⟩) (fun t h => ed_mk ⟨h.2.1, Or.inr ⟨h.1, h.2.2⟩⟩)
  · rintro n ⟨x3, M4⟩ ⟨y, hy, e1, f, h⟩
    replace e1 : x3 = nI y := e1
    replace f : frL M M4 := f
    replace h : FS M4 D (SC W H D lo hi lim m (cde 0 y 0 0)) := h
    subst e1
    have L4 := LK_L f L
    obtain ⟨⟨q1, q2, qw, qh⟩, _⟩ := id L4.2.1
    show ed (f_HFinder_lookAtAll_L2 _ (nI y) M4) _
    unfold f_HFinder_lookAtAll_L2
    rw [q1, qh, nI_m, nI_add, if_nIlt (by omega) (by omega)]
    by_cases c : H < y + 7 * m
    · rw [if_pos c]
      refine lpo_r ⟨f, FS_S (fun k => ?_) h⟩
      constructor
      · rintro ⟨a, b | ⟨b, _⟩⟩
        · exact ⟨a, by omega⟩
        · exact ⟨a, by omega⟩
      · rintro ⟨a, b⟩
        refine ⟨a, ?_⟩
        rcases Nat.lt_or_ge (km k) m with z | z
        · exact Or.inl z
        · have e : km k = m := by omega
          obtain ⟨f', X, Y, f4, ff, eX, eY, ep, _, _, hX7, hY7, hX⟩ := pc_k a hW hlo.1
          have k64 := kv_lt (k := k)
          refine Or.inr ⟨e, ?_⟩
          rw [e] at hY7
          rw [ep]
          unfold cde
          omega
    · rw [if_neg c]
      refine bs1_q (P := fun M3 => frL M M3 ∧ FS M3 D (SC W H D lo hi lim m (cde 0 (y + 1) 0 0))) (R := fun t => t.1 = 0 ∧ frL M t.2 ∧ OV (StP W H D lo hi lim)) (lp_inv (fun n (s : Int32 × im_M) => ∃ x : Nat, x + n = W - 7 * m + 1 ∧ s.1 = nI x ∧ frL M s.2 ∧ FS s.2 D (SC W H D lo hi lim m (cde x y 0 0))) ?_ (k := W - 7 * m + 1) ⟨0, by omega, rfl, f, h⟩) ?_ ?_
      · rintro n ⟨x8, M9⟩ ⟨x, hx, e1, f, h⟩
        replace e1 : x8 = nI x := e1
        replace f : frL M M9 := f
        replace h : FS M9 D (SC W H D lo hi lim m (cde x y 0 0)) := h
        subst e1
        have L9 := LK_L f L
        obtain ⟨⟨q1, q2, qw, qh⟩, _⟩ := id L9.2.1
        show ed (f_HFinder_lookAtAll_L23 _ (nI y) (nI x) M9) _
        unfold f_HFinder_lookAtAll_L23
        rw [q1, qw, nI_m, nI_add, if_nIlt (by omega) (by omega)]
        by_cases c2 : W < x + 7 * m
        · rw [if_pos c2]
          refine lpo_r ⟨f, FS_S (SC_gap (by unfold cde; omega) ?_) h⟩
          intro k hk hkm h1 h2
          obtain ⟨f', X, Y, f4, ff, eX, eY, ep, _, _, hX7, hY7, hX⟩ := pc_k hk hW hlo.1
          have k64 := kv_lt (k := k)
          rw [ep] at h1 h2
          rw [hkm] at hX7
          unfold cde at h1 h2
          generalize kv k = V at h1 h2 k64
          omega
        · rw [if_neg c2]
          refine bs1_q (s_lookCs L9 hlo (by omega) (by omega) h) ?_ ?_
          · rintro M11 ⟨f2, h2⟩
            have f3 : frL M M11 := fr_tr f2 f
            exact lpo_l (n - 1) (by omega) ⟨x + 1, by omega, nI_add x 1, f3, h2⟩
          · rintro ⟨t, M11⟩ ⟨e, f2, h2⟩
            have f3 : frL M M11 := fr_tr f2 f
            exact lpo_r ⟨e, f3, h2⟩
      · rintro M3 ⟨f, h⟩
        exact lpo_l (n - 1) (by omega) ⟨y + 1, by omega, nI_add y 1, f, h⟩
      · rintro t ⟨a, b, d⟩
        exact lpo_r ⟨a, b, d⟩
  · refine FS_S (fun k => ?_) hF
    constructor
    · rintro ⟨a, b⟩
      exact ⟨a, Or.inl b⟩
    · rintro ⟨a, b | ⟨_, b⟩⟩
      · exact ⟨a, b⟩
      · exact absurd b (by unfold cde; omega)
def frK (M M' : im_M) : Prop := fr (2 ^ 61 ||| 2 ^ 62 ||| 2 ^ 63 ||| 2 ^ 65) [(59, 8), (59, 9)] M M'
theorem frK_refl {M : im_M} : fr (2 ^ 61 ||| 2 ^ 62 ||| 2 ^ 63 ||| 2 ^ 65) [(59, 8), (59, 9)] M M := fr_refl
/-- the loop over the sizes of a module -/
theorem s_sizes {M : im_M} {w : Bool} {W H lim lo hi : Nat} {D : Nat → Nat → Bool} (hs : SUMS (im_i M 60) W H D) (h10 : im_i M 59 10 = nI lim) (hw : im_i M 28 0 = nI W) (hh : im_i M 28 1 = nI H) (hW : W ≤ 512) (hH : H ≤ 512) (hl : lim ≤ 500) (hlo : 1 ≤ lo ∧ lo ≤ hi ∧ hi ≤ 16) (hF : FS M D (fun k => StP W H D lo hi lim k ∧ km k < lo)) (h9 : im_i M 59 9 = nI lo) : ed (lp (uc1 (f_HFinder_search_L69 w (nI hi) (nI (if H < W then H else W)) (iZ (cs D W H)))) M) (sQ (fun M3 => frK M M3 ∧ FS M3 D (StP W H D lo hi lim)) (fun t => t.1 = -1 ∧ frK M t.2 ∧ OV (StP W H D lo hi lim))) := by
  have hroom : (if H < W then H else W) ≤ 512 := by split <;> omega
  refine lp_inv (fun n (s : im_M) => ∃ m : Nat, m + n = hi + 1 ∧ lo ≤ m ∧ im_i s 59 9 = nI m ∧ frK M s ∧ FS s D (fun k => StP W H D lo hi lim k ∧ km k < m)) ?_ (k := hi + 1 - lo) ⟨lo, by omega, by omega, h9, frK_refl, hF⟩
  rintro n M7 ⟨m, hm, hlm, e9, f, h⟩
  replace f : frK M M7 := f
  have e10 : im_i M7 59 10 = nI lim := (f.1 59 10 (by decide) (by decide)).trans h10
  show ed (f_HFinder_search_L69 w (nI hi) _ _ M7) _
  unfold f_HFinder_search_L69
  have stop : (hi < m ∨ (if H < W then H else W) < 21 * m) → FS M7 D (StP W H D lo hi lim) := by
    intro hst
    refine FS_S (fun k => ⟨fun a => a.1, fun a => ⟨a, ?_⟩⟩) h
    rcases hst with z | z
    · have := a.1; omega
    · rcases Nat.lt_or_ge (km k) m with z2 | z2
      · exact z2
      · have h3 := a.2.2.1
        have : m * 21 ≤ ksz k := Nat.mul_le_mul z2 (by have := a.2.1; omega)
        split at z <;> omega
  rw [e9, nI_m, if_nIlt (by omega) (by omega)]
  by_cases c1 : hi < m
  · rw [if_pos c1]
    exact lpo_r ⟨f, stop (Or.inl c1)⟩
  · rw [if_neg c1, if_nIlt (by omega) (by omega)]
    by_cases c2 : (if H < W then H else W) < 21 * m
    · rw [if_pos c2]
      exact lpo_r ⟨f, stop (Or.inr c2)⟩
    · have hr : 21 * m ≤ W ∧ 21 * m ≤ H := by split at c2 <;> omega
      have hmm := mm_le (show m ≤ 16 by omega)
      have cb := cs_nn (D := D) (a := W) (b := H)
      have cb2 := cs_le (D := D) (a := W) (b := H)
      have wh : W * H ≤ 262144 := Nat.mul_le_mul hW hH
      have e106 : ((102 : Int32) + (4 : Int32) * 1) * nI m * nI m = iZ ((106 * m * m : Nat) : Int) := by rw [show (102 : Int32) + (4 : Int32) * 1 = 106 from by decide, nI_m, nI_mul, iZ_nI]
      have es : iZ (cs D W H) + nI lim = iZ (cs D W H + (lim : Int)) := by rw [iZ_nI, iZ_add]
      have h99 : 106 * m * m = 106 * (m * m) := Nat.mul_assoc _ _ _
      unfold f_HFinder_darkMarks
      rw [if_neg c2, bd1_s, e10, e106, es]
      have nx : ∀ M9 : im_M, frK M M9 → im_i M9 59 9 = nI m → FS M9 D (fun k => StP W H D lo hi lim k ∧ km k < m + 1) → ed (some (Sum.inl (im_setI M9 59 9 (im_i M9 59 9 + 1)))) (lpo (fun n (s : im_M) => ∃ m : Nat, m + n = hi + 1 ∧ lo ≤ m ∧ im_i s 59 9 = nI m ∧ frK M s ∧ FS s D (fun k => StP W H D lo hi lim k ∧ km k < m)) (sQ (fun M3 => frK M M3 ∧ FS M3 D (StP W H D lo hi lim)) (fun t : Int32 × im_M => t.1 = -1 ∧ frK M t.2 ∧ OV (StP W H D lo hi lim))) n) := by
        intro M9 f9 g9 hF9
        refine lpo_l (n - 1) (by omega) ⟨m + 1, by omega, by omega, ?_, fr_F (by decide) f9, ?_⟩
        · show im_i M9 59 9 + 1 = _
          rw [g9]
          exact nI_add m 1
        · exact FS_fr (fr_F (A := 0) (F := [(59, 9)]) (by decide) fr_refl) (by decide +kernel) hF9
      show ed (if iZ (cs D W H + (lim : Int)) < iZ ((106 * m * m : Nat) : Int) then _ else _) _
      rw [if_iZlt (by omega) (by omega)]
      by_cases c3 : cs D W H + (lim : Int) < ((106 * m * m : Nat) : Int)
      · rw [if_pos c3]
        refine nx M7 f e9 (FS_S (fun k => ⟨fun a => ⟨a.1, by have := a.2; omega⟩, fun a => ⟨a.1, ?_⟩⟩) h)
        rcases Nat.lt_or_ge (km k) m with z2 | z2
        · exact z2
        · have e : km k = m := by have := a.2; omega
          have := skip106 a.1
          rw [e] at this
          omega
      · rw [if_neg c3]
        have g7 : MLW M7 m lim W H := ⟨⟨e9, e10, (f.1 28 0 (by decide) (by decide)).trans hw, (f.1 28 1 (by decide) (by decide)).trans hh⟩, by omega, by omega, hl, hW, hH⟩
        have s7 : SUMS (im_i M7 60) W H D := SUMS_fr f (by decide +kernel) hs
        apply bd1_mk
        refine ed_mono (s_corners s7 g7 ⟨by omega, by omega⟩) ?_
        rintro M9 ⟨f2, hc⟩
        have L9 : LK M9 W H m lim D := ⟨SUMS_fr f2 (by decide +kernel) s7, MLW_fr f2 (by decide +kernel) g7, hc⟩
        apply bd2_mk
        refine ed_mono (s_lookAll (lo := lo) (hi := hi) L9 ⟨hlo.1, hlm, by omega⟩ ⟨by omega, by omega⟩ (FS_fr f2 (by decide +kernel) h)) ?_
        rintro ⟨x10, M10⟩ ⟨f3, h3⟩
        replace f3 : frL M9 M10 := f3
        have f4 : frK M M10 := fr_tr (fr_mono (by decide) (by decide) f3) (fr_tr (fr_mono (by decide) (by decide) f2) f)
        rcases h3 with ⟨e, h3⟩ | ⟨e, h3⟩
        · replace e : x10 = 1 := e
          subst e
          show ed (if ¬ (1 : Int32) = 0 then _ else _) _
          rw [if_pos (by decide)]
          exact nx M10 f4 ((f3.1 59 9 (by decide) (by decide)).trans L9.2.1.1.1) h3
        · replace e : x10 = 0 := e
          subst e
          show ed (if ¬ (0 : Int32) = 0 then _ else _) _
          rw [if_neg (fun z => z rfl)]
          exact lpo_r ⟨rfl, f4, h3⟩
