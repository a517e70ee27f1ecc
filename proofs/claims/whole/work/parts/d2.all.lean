/-! THE CLASS LOOKS EVERYWHERE -/
theorem s_lookAll {M : im_M} {W H m lim lo hi : Nat} {D : Nat → Nat → Bool} (L : LK M W H m lim D) (hlo : 1 ≤ lo ∧ lo ≤ m ∧ m ≤ hi) (hr : 7 * m ≤ W ∧ 7 * m ≤ H) (hF : FS M D (fun k => StP W H D lo hi lim k ∧ km k < m)) : ed (f_HFinder_lookAtAll (nI (if H < W then H else W)) M) (fun r => frL M r.2 ∧ ((r.1 = 1 ∧ FS r.2 D (fun k => StP W H D lo hi lim k ∧ km k < m + 1)) ∨ (r.1 = 0 ∧ OV (StP W H D lo hi lim)))) := by
  obtain ⟨⟨g1, g2, gw, gh⟩, hm1, hm, hl, hW, hH⟩ := id L.2.1
  unfold f_HFinder_lookAtAll
  refine bs1_q (P := fun M3 => frL M M3 ∧ FS M3 D (fun k => StP W H D lo hi lim k ∧ km k < m + 1)) (R := fun t => t.1 = 0 ∧ frL M t.2 ∧ OV (StP W H D lo hi lim)) (lp_inv (fun n (s : Int32 × im_M) => ∃ y : Nat, y + n = H - 7 * m + 1 ∧ s.1 = nI y ∧ frL M s.2 ∧ FS s.2 D (SC W H D lo hi lim m (cde 0 y 0 0))) ?_ (k := H - 7 * m + 1) ⟨0, by omega, rfl, frL_refl, ?_⟩) (fun t h => ed_mk ⟨h.1, Or.inl ⟨rfl, h.2⟩⟩) (fun t h => ed_mk ⟨h.2.1, Or.inr ⟨h.1, h.2.2⟩⟩)
  · rintro n ⟨x3, M4⟩ ⟨y, hy, e1, f, h⟩
    replace e1 : x3 = nI y := e1
    replace f : frL M M4 := f
    replace h : FS M4 D (SC W H D lo hi lim m (cde 0 y 0 0)) := h
    subst e1
    have L4 := LK_L f L
    obtain ⟨⟨q1, q2, qw, qh⟩, _⟩ := id L4.2.1
    show ed (f_HFinder_lookAtAll_L2 _ (nI y) M4) _
    unfold f_HFinder_lookAtAll_L2
    rw [q1, qh, nI_m, nI_add, if_nIlt (by omega) (by omega)]
    by_cases c : H < y + 7 * m
    · rw [if_pos c]
      refine lpo_r ⟨f, FS_S (fun k => ?_) h⟩
      constructor
      · rintro ⟨a, b | ⟨b, _⟩⟩
        · exact ⟨a, by omega⟩
        · exact ⟨a, by omega⟩
      · rintro ⟨a, b⟩
        refine ⟨a, ?_⟩
        rcases Nat.lt_or_ge (km k) m with z | z
        · exact Or.inl z
        · have e : km k = m := by omega
          obtain ⟨f', X, Y, f4, ff, eX, eY, ep, _, hX7, hY7, hX⟩ := pc_k a hW hlo.1
          have k64 := kv_lt (k := k)
          refine Or.inr ⟨e, ?_⟩
          rw [e] at hY7
          rw [ep]
          unfold cde
          omega
    · rw [if_neg c]
      refine bs1_q (P := fun M3 => frL M M3 ∧ FS M3 D (SC W H D lo hi lim m (cde 0 (y + 1) 0 0))) (R := fun t => t.1 = 0 ∧ frL M t.2 ∧ OV (StP W H D lo hi lim)) (lp_inv (fun n (s : Int32 × im_M) => ∃ x : Nat, x + n = W - 7 * m + 1 ∧ s.1 = nI x ∧ frL M s.2 ∧ FS s.2 D (SC W H D lo hi lim m (cde x y 0 0))) ?_ (k := W - 7 * m + 1) ⟨0, by omega, rfl, f, h⟩) ?_ ?_
      · rintro n ⟨x8, M9⟩ ⟨x, hx, e1, f, h⟩
        replace e1 : x8 = nI x := e1
        replace f : frL M M9 := f
        replace h : FS M9 D (SC W H D lo hi lim m (cde x y 0 0)) := h
        subst e1
        have L9 := LK_L f L
        obtain ⟨⟨q1, q2, qw, qh⟩, _⟩ := id L9.2.1
        show ed (f_HFinder_lookAtAll_L23 _ (nI y) (nI x) M9) _
        unfold f_HFinder_lookAtAll_L23
        rw [q1, q2, qw, nI_m, nI_add, if_nIlt (by omega) (by omega)]
        by_cases c2 : W < x + 7 * m
        · rw [if_pos c2]
          refine lpo_r ⟨f, FS_S (SC_gap (by unfold cde; omega) ?_) h⟩
          intro k hk hkm h1 h2
          obtain ⟨f', X, Y, f4, ff, eX, eY, ep, _, hX7, hY7, hX⟩ := pc_k hk hW hlo.1
          have k64 := kv_lt (k := k)
          rw [ep] at h1 h2
          rw [hkm] at hX7
          unfold cde at h1 h2
          generalize kv k = V at h1 h2 k64
          omega
        · have ei : nI y * 512 + nI x = nI (512 * y + x) := by rw [nI_n, nI_mul, nI_add, Nat.mul_comm]
          have vv : im_i M9 61 (512 * y + x) = iZ (cwE D m lim x y) := L9.2.2 x y (by omega) (by omega)
          have e3 : nI lim / 3 = iZ ((lim / 3 : Nat) : Int) := by
            rw [nI_n, nI_div (by omega) (by decide) (by decide), iZ_nI]
          have cb := cwE_b (D := D) (m := m) (lim := lim) (x := x) (y := y)
          rw [if_neg c2, ei, gd_pos (by rw [inb_nI (by omega)]; omega), nI_clamp (by omega), vv, e3]
          show ed (if iZ ((lim / 3 : Nat) : Int) < iZ (cwE D m lim x y) then _ else _) _
          rw [if_iZlt (by omega) (by omega)]
          by_cases c3 : ((lim / 3 : Nat) : Int) < cwE D m lim x y
          · rw [if_pos c3]
            refine lpo_l (n - 1) (by omega) ⟨x + 1, by omega, nI_add x 1, f, FS_S (SC_gap (by unfold cde; omega) ?_) h⟩
            intro k hk hkm h1 h2
            obtain ⟨f', X, Y, f4, ff, eX, eY, ep, hrg, hX7, hY7, hX⟩ := pc_k hk hW hlo.1
            have k64 := kv_lt (k := k)
            rw [ep] at h1 h2
            unfold cde at h1 h2
            rw [show y * 512 + (x + 1) = y * 512 + x + 1 from (Nat.add_assoc _ _ _).symm] at h2
            obtain ⟨hP, _⟩ := cde_g (P := y * 512 + x) (P' := Y * 512 + X) (a := 0) k64 f4 h1 h2
            obtain ⟨rfl, rfl⟩ := eq4 hX (show x < 512 by omega) hP
            rw [hkm] at hrg
            unfold cwE at c3
            rw [if_pos (by omega)] at c3
            omega
          · rw [if_neg c3]
            apply bd2_mk
            have hg : rgE D m x y ≤ ((lim / 3 : Nat) : Int) := by
              unfold cwE at c3
              split at c3 <;> omega
            refine ed_mono (s_lookFrom L9 hlo (by omega) (by omega) hg h) ?_
            rintro ⟨x11, M11⟩ ⟨f2, h2⟩
            have f3 : frL M M11 := fr_tr f2 f
            rcases h2 with ⟨e, h2⟩ | ⟨e, h2⟩
            · replace e : x11 = 1 := e
              subst e
              show ed (if ¬ (1 : Int32) = 0 then _ else _) _
              rw [if_pos (by decide)]
              exact lpo_l (n - 1) (by omega) ⟨x + 1, by omega, nI_add x 1, f3, h2⟩
            · replace e : x11 = 0 := e
              subst e
              show ed (if ¬ (0 : Int32) = 0 then _ else _) _
              rw [if_neg (fun z => z rfl)]
              exact lpo_r ⟨rfl, f3, h2⟩
      · rintro M3 ⟨f, h⟩
        exact lpo_l (n - 1) (by omega) ⟨y + 1, by omega, nI_add y 1, f, h⟩
      · rintro t ⟨a, b, d⟩
        exact lpo_r ⟨a, b, d⟩
  · refine FS_S (fun k => ?_) hF
    constructor
    · rintro ⟨a, b⟩
      exact ⟨a, Or.inl b⟩
    · rintro ⟨a, b | ⟨_, b⟩⟩
      · exact ⟨a, b⟩
      · exact absurd b (by unfold cde; omega)
def frK (M M' : im_M) : Prop := fr (2 ^ 61 ||| 2 ^ 62 ||| 2 ^ 63 ||| 2 ^ 65) [(59, 8), (59, 9)] M M'
theorem frK_refl {M : im_M} : fr (2 ^ 61 ||| 2 ^ 62 ||| 2 ^ 63 ||| 2 ^ 65) [(59, 8), (59, 9)] M M := fr_refl
/-- the loop over the sizes of a module -/
theorem s_sizes {M : im_M} {w : Bool} {W H lim lo hi : Nat} {D : Nat → Nat → Bool} (hs : SUMS (im_i M 60) W H D) (h10 : im_i M 59 10 = nI lim) (hw : im_i M 28 0 = nI W) (hh : im_i M 28 1 = nI H) (hW : W ≤ 512) (hH : H ≤ 512) (hl : lim ≤ 500) (hlo : 1 ≤ lo ∧ lo ≤ hi ∧ hi ≤ 16) (hF : FS M D (fun k => StP W H D lo hi lim k ∧ km k < lo)) (h9 : im_i M 59 9 = nI lo) : ed (lp (uc1 (f_HFinder_search_L69 w (nI hi) (nI (if H < W then H else W)) (iZ (cs D W H)))) M) (sQ (fun M3 => frK M M3 ∧ FS M3 D (StP W H D lo hi lim)) (fun t => t.1 = -1 ∧ frK M t.2 ∧ OV (StP W H D lo hi lim))) := by
  have hroom : (if H < W then H else W) ≤ 512 := by split <;> omega
  refine lp_inv (fun n (s : im_M) => ∃ m : Nat, m + n = hi + 1 ∧ lo ≤ m ∧ im_i s 59 9 = nI m ∧ frK M s ∧ FS s D (fun k => StP W H D lo hi lim k ∧ km k < m)) ?_ (k := hi + 1 - lo) ⟨lo, by omega, by omega, h9, frK_refl, hF⟩
  rintro n M7 ⟨m, hm, hlm, e9, f, h⟩
  replace f : frK M M7 := f
  have e10 : im_i M7 59 10 = nI lim := (f.1 59 10 (by decide) (by decide)).trans h10
  show ed (f_HFinder_search_L69 w (nI hi) _ _ M7) _
  unfold f_HFinder_search_L69
  have stop : (hi < m ∨ (if H < W then H else W) < 21 * m) → FS M7 D (StP W H D lo hi lim) := by
    intro hst
    refine FS_S (fun k => ⟨fun a => a.1, fun a => ⟨a, ?_⟩⟩) h
    rcases hst with z | z
    · have := a.1; omega
    · rcases Nat.lt_or_ge (km k) m with z2 | z2
      · exact z2
      · have h3 := a.2.2.1
        have : m * 21 ≤ ksz k := Nat.mul_le_mul z2 (by have := a.2.1; omega)
        split at z <;> omega
  rw [e9, nI_m, if_nIlt (by omega) (by omega)]
  by_cases c1 : hi < m
  · rw [if_pos c1]
    exact lpo_r ⟨f, stop (Or.inl c1)⟩
  · rw [if_neg c1, if_nIlt (by omega) (by omega)]
    by_cases c2 : (if H < W then H else W) < 21 * m
    · rw [if_pos c2]
      exact lpo_r ⟨f, stop (Or.inr c2)⟩
    · have hr : 21 * m ≤ W ∧ 21 * m ≤ H := by split at c2 <;> omega
      have hmm := mm_le (show m ≤ 16 by omega)
      have cb := cs_nn (D := D) (a := W) (b := H)
      have cb2 := cs_le (D := D) (a := W) (b := H)
      have wh : W * H ≤ 262144 := Nat.mul_le_mul hW hH
      have e99 : (99 : Int32) * nI m * nI m = iZ ((99 * m * m : Nat) : Int) := by rw [nI_m, nI_mul, iZ_nI]
      have es : iZ (cs D W H) + nI lim = iZ (cs D W H + (lim : Int)) := by rw [iZ_nI, iZ_add]
      have h99 : 99 * m * m = 99 * (m * m) := Nat.mul_assoc _ _ _
      rw [if_neg c2, e10, e99, es]
      have nx : ∀ M9 : im_M, frK M M9 → im_i M9 59 9 = nI m → FS M9 D (fun k => StP W H D lo hi lim k ∧ km k < m + 1) → ed (some (Sum.inl (im_setI M9 59 9 (im_i M9 59 9 + 1)))) (lpo (fun n (s : im_M) => ∃ m : Nat, m + n = hi + 1 ∧ lo ≤ m ∧ im_i s 59 9 = nI m ∧ frK M s ∧ FS s D (fun k => StP W H D lo hi lim k ∧ km k < m)) (sQ (fun M3 => frK M M3 ∧ FS M3 D (StP W H D lo hi lim)) (fun t : Int32 × im_M => t.1 = -1 ∧ frK M t.2 ∧ OV (StP W H D lo hi lim))) n) := by
        intro M9 f9 g9 hF9
        refine lpo_l (n - 1) (by omega) ⟨m + 1, by omega, by omega, ?_, fr_F (by decide) f9, ?_⟩
        · show im_i M9 59 9 + 1 = _
          rw [g9]
          exact nI_add m 1
        · exact FS_fr (fr_F (A := 0) (F := [(59, 9)]) (by decide) fr_refl) (by decide +kernel) hF9
      show ed (if iZ (cs D W H + (lim : Int)) < iZ ((99 * m * m : Nat) : Int) then _ else _) _
      rw [if_iZlt (by omega) (by omega)]
      by_cases c3 : cs D W H + (lim : Int) < ((99 * m * m : Nat) : Int)
      · rw [if_pos c3]
        refine nx M7 f e9 (FS_S (fun k => ⟨fun a => ⟨a.1, by have := a.2; omega⟩, fun a => ⟨a.1, ?_⟩⟩) h)
        rcases Nat.lt_or_ge (km k) m with z2 | z2
        · exact z2
        · have e : km k = m := by have := a.2; omega
          have := skip99 a.1
          rw [e] at this
          omega
      · rw [if_neg c3]
        have g7 : MLW M7 m lim W H := ⟨⟨e9, e10, (f.1 28 0 (by decide) (by decide)).trans hw, (f.1 28 1 (by decide) (by decide)).trans hh⟩, by omega, by omega, hl, hW, hH⟩
        have s7 : SUMS (im_i M7 60) W H D := SUMS_fr f (by decide +kernel) hs
        apply bd1_mk
        refine ed_mono (s_corners s7 g7 ⟨by omega, by omega⟩) ?_
        rintro M9 ⟨f2, hc⟩
        have L9 : LK M9 W H m lim D := ⟨SUMS_fr f2 (by decide +kernel) s7, MLW_fr f2 (by decide +kernel) g7, hc⟩
        apply bd2_mk
        refine ed_mono (s_lookAll (lo := lo) (hi := hi) L9 ⟨hlo.1, hlm, by omega⟩ ⟨by omega, by omega⟩ (FS_fr f2 (by decide +kernel) h)) ?_
        rintro ⟨x10, M10⟩ ⟨f3, h3⟩
        replace f3 : frL M9 M10 := f3
        have f4 : frK M M10 := fr_tr (fr_mono (by decide) (by decide) f3) (fr_tr (fr_mono (by decide) (by decide) f2) f)
        rcases h3 with ⟨e, h3⟩ | ⟨e, h3⟩
        · replace e : x10 = 1 := e
          subst e
          show ed (if ¬ (1 : Int32) = 0 then _ else _) _
          rw [if_pos (by decide)]
          exact nx M10 f4 ((f3.1 59 9 (by decide) (by decide)).trans L9.2.1.1.1) h3
        · replace e : x10 = 0 := e
          subst e
          show ed (if ¬ (0 : Int32) = 0 then _ else _) _
          rw [if_neg (fun z => z rfl)]
          exact lpo_r ⟨rfl, f4, h3⟩
