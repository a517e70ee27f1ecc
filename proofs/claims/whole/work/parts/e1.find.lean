/-! THE REFERENCE FINDS -/
def frG (M M' : im_M) : Prop := fr (2 ^ 133 ||| 2 ^ 134) [(130, 6), (130, 8)] M M'
theorem frG_refl {M : im_M} : fr (2 ^ 133 ||| 2 ^ 134) [(130, 6), (130, 8)] M M := fr_refl
theorem cd2_mm {v v' m M' y x q : Nat} (hm : M' < 32) (hy : y < 512) (hx : x < 512) (hq : q < 4) (h1 : (((v * 32 + m) * 512 + 0) * 512 + 0) * 4 + 0 ≤ (((v' * 32 + M') * 512 + y) * 512 + x) * 4 + q) (h2 : (((v' * 32 + M') * 512 + y) * 512 + x) * 4 + q < ((((v + 1) * 32 + 0) * 512 + 0) * 512 + 0) * 4 + 0) : v' = v ∧ m ≤ M' := by omega
theorem cd2_lo {v v' m M' y x q : Nat} (hm : M' < 32) (hm2 : m < 32) (hy : y < 512) (hx : x < 512) (hq : q < 4) (h1 : (((v * 32 + 0) * 512 + 0) * 512 + 0) * 4 + 0 ≤ (((v' * 32 + M') * 512 + y) * 512 + x) * 4 + q) (h2 : (((v' * 32 + M') * 512 + y) * 512 + x) * 4 + q < (((v * 32 + m) * 512 + 0) * 512 + 0) * 4 + 0) : M' < m := by omega
theorem cd2_vv {v v' M' y x q : Nat} (hm : M' < 32) (hy : y < 512) (hx : x < 512) (hq : q < 4) : (((v' * 32 + M') * 512 + y) * 512 + x) * 4 + q < (((v * 32 + 0) * 512 + 0) * 512 + 0) * 4 + 0 ↔ v' < v := by
  constructor <;> intro h <;> omega
theorem s_findV {M : im_M} {W H lo hi lim : Nat} {D : Nat → Nat → Bool} (hs : SUMS (im_i M 132) W H D) (hwh : im_i M 130 1 = nI W ∧ im_i M 130 2 = nI H) (hW : W ≤ 512) (hH : H ≤ 512) (hlo : 1 ≤ lo ∧ lo ≤ hi ∧ hi ≤ 16) (hl : lim ≤ 500) (hF : FM M D (SR W H D lo hi lim (cd2 1 0 0 0 0))) : ed (lp (uc2 (f_MPlaceRows_find_L62 (nI lo) (nI hi) (nI lim))) (1, M)) (sQ (fun M3 => frG M M3 ∧ FM M3 D (StP W H D lo hi lim)) (fun t => t.1 = -1 ∧ OV (StP W H D lo hi lim) ∧ ∃ M3, frG M M3 ∧ t.2 = im_setI (im_setI M3 130 8 0) 130 10 0)) := by
  refine lp_inv (fun n (s : Int32 × im_M) => ∃ v : Nat, v + n = 41 ∧ 1 ≤ v ∧ s.1 = nI v ∧ frG M s.2 ∧ FM s.2 D (SR W H D lo hi lim (cd2 v 0 0 0 0))) ?_ (k := 40) ⟨1, by omega, by omega, rfl, frG_refl, hF⟩
  rintro n ⟨x18, M19⟩ ⟨v, hvn, hv1, e1, f, h⟩
  replace e1 : x18 = nI v := e1
  replace f : frG M M19 := f
  replace h : FM M19 D (SR W H D lo hi lim (cd2 v 0 0 0 0)) := h
  subst e1
  show ed (f_MPlaceRows_find_L62 (nI lo) (nI hi) (nI lim) (nI v) M19) _
  unfold f_MPlaceRows_find_L62
  have c40 : ((40 : Int32) < nI v) = (40 < v) := nIlt (x := 40) (by omega) (by omega)
  simp only [c40]
  by_cases c1 : 40 < v
  · rw [if_pos c1]
    obtain rfl : v = 41 := by omega
    refine lpo_r ⟨f, FM_S (fun k => ⟨fun z => z.1, fun z => ⟨z, ?_⟩⟩) h⟩
    have ky2 := StP_y z hH hlo.1
    have := z.2.1
    exact (cd2_vv km_lt ky2 kx_lt kq_lt).mpr (by omega)
  · rw [if_neg c1]
    apply bd1_mk
    refine ed_mono (s_list (M := M19) (v := v) ⟨hv1, by omega⟩) ?_
    rintro M20 ⟨f2, hR⟩
    replace f2 : fr (2 ^ 133) [(130, 6)] M19 M20 := f2
    have f3 : frG M M20 := fr_tr (fr_mono (by decide) (by decide) f2) f
    have L20 : LM M20 W H v D := ⟨by rw [show im_i M20 132 = im_i M 132 from fr_c f3 132 (by decide) (by decide)]; exact hs, ⟨(f3.1 130 1 (by decide) (by decide)).trans hwh.1, (f3.1 130 2 (by decide) (by decide)).trans hwh.2⟩, hR⟩
    have h20 : FM M20 D (SR W H D lo hi lim (cd2 v lo 0 0 0)) := by
      refine FM_S (SR_gap (by unfold cd2; omega) ?_) (FM_fr f2 (by decide +kernel) h)
      intro k hk h1 h2
      have ky2 := StP_y hk hH hlo.1
      have := cd2_lo (v := v) (v' := kv k) (m := lo) km_lt (by omega) ky2 kx_lt kq_lt h1 h2
      have := hk.1
      omega
    refine bs1_q (P := fun M3 => frG M M3 ∧ FM M3 D (SR W H D lo hi lim (cd2 (v + 1) 0 0 0 0))) (R := fun t => t.1 = -1 ∧ OV (StP W H D lo hi lim) ∧ ∃ M3, frG M M3 ∧ t.2 = im_setI (im_setI M3 130 8 0) 130 10 0) (lp_inv (fun n (s : Int32 × im_M) => ∃ m : Nat, m + n = hi + 1 ∧ lo ≤ m ∧ s.1 = nI m ∧ frG M s.2 ∧ LM s.2 W H v D ∧ FM s.2 D (SR W H D lo hi lim (cd2 v m 0 0 0))) ?_ (k := hi + 1 - lo) ⟨lo, by omega, by omega, rfl, f3, L20, h20⟩) ?_ ?_
    · rintro n ⟨x26, M27⟩ ⟨m, hmn, hlm, e1, f, L, h⟩
      replace e1 : x26 = nI m := e1
      replace f : frG M M27 := f
      replace L : LM M27 W H v D := L
      replace h : FM M27 D (SR W H D lo hi lim (cd2 v m 0 0 0)) := h
      subst e1
      show ed (f_MPlaceRows_find_L78 (nI lo) (nI hi) (nI lim) (nI v) (nI m) M27) _
      unfold f_MPlaceRows_find_L78
      rw [if_nIlt (by omega) (by omega)]
      by_cases c2 : hi < m
      · rw [if_pos c2]
        refine lpo_r ⟨f, FM_S (SR_gap (by unfold cd2; omega) ?_) h⟩
        intro k hk h1 h2
        have ky2 := StP_y hk hH hlo.1
        have := cd2_mm (v := v) (v' := kv k) (m := m) km_lt ky2 kx_lt kq_lt h1 h2
        have := hk.1
        omega
      · rw [if_neg c2]
        apply bd2_mk
        refine ed_mono (s_look L hW hH ⟨hlo.1, hlm, by omega, hlo.2.2⟩ ⟨hv1, by omega⟩ hl h) ?_
        rintro ⟨x28, M28⟩ ⟨f4, h4⟩
        replace f4 : frE M27 M28 := f4
        have f5 : frG M M28 := fr_tr (fr_mono (by decide) (by decide) f4) f
        rcases h4 with ⟨e, h4⟩ | ⟨e, h4⟩
        · replace e : x28 = 1 := e
          subst e
          show ed (if ¬ (1 : Int32) = 0 then _ else _) _
          rw [if_pos (by decide)]
          exact lpo_l (n - 1) (by omega) ⟨m + 1, by omega, by omega, nI_add m 1, f5, LM_fr f4 (by decide +kernel) L, h4⟩
        · replace e : x28 = 0 := e
          subst e
          show ed (if ¬ (0 : Int32) = 0 then _ else _) _
          rw [if_neg (fun z => z rfl)]
          exact lpo_r ⟨rfl, h4, M28, f5, rfl⟩
    · rintro M3 ⟨f, h⟩
      exact lpo_l (n - 1) (by omega) ⟨v + 1, by omega, by omega, nI_add v 1, f, h⟩
    · rintro t ⟨a, b, d⟩
      exact lpo_r ⟨a, b, d⟩
theorem s_find {M : im_M} {W H lo hi lim : Nat} {D : Nat → Nat → Bool} (q : PR M W H D) (hz : Z0 (im_i M 132)) (hlo : 1 ≤ lo ∧ lo ≤ hi ∧ hi ≤ 16) (hlim : lim ≤ 500) : ed (f_MPlaceRows_find (nI lo) (nI hi) (nI lim) M) (fun r => fr (2 ^ 132 ||| 2 ^ 133 ||| 2 ^ 134 ||| 2 ^ 135) [(130, 0), (130, 6), (130, 8), (130, 10)] M r.2 ∧ Z0 (im_i r.2 132) ∧ im_i r.2 130 0 = 0 ∧ ((FDM r.2 D (ld D (StP W H D lo hi lim)) ∧ r.1 = im_i r.2 130 10 ∧ ∃ (n : Nat) (f : Nat → Nat), n ≤ 300 ∧ ∀ k, StP W H D lo hi lim k → ∃ i, i < n ∧ f i = k) ∨ (r.1 = -1 ∧ im_i r.2 130 10 = 0 ∧ OV (StP W H D lo hi lim)))) := by
  have hW := q.1
  unfold f_MPlaceRows_find f_MPlaceRows_forget
  have p1 : (nI lo < 1) = (lo < 1) := nIlt (c := 1) (by omega) (by omega)
  have p2 : ((16 : Int32) < nI lo) = (16 < lo) := nIlt (x := 16) (by omega) (by omega)
  have p3 : (nI hi < nI lo) = (hi < lo) := nIlt (by omega) (by omega)
  have p4 : ((16 : Int32) < nI hi) = (16 < hi) := nIlt (x := 16) (by omega) (by omega)
  have p5 : (nI lim < 0) = (lim < 0) := nIlt (c := 0) (by omega) (by omega)
  have p6 : (nI lim ≤ 500) = (lim ≤ 500) := nIl (c := 500) (by omega) (by omega)
  simp only [jn0, p1, p2, p3, p4, p5, p6]
  rw [if_neg (show ¬ lo < 1 by omega), if_neg (show ¬ 16 < lo by omega), if_neg (show ¬ hi < lo by omega), if_neg (show ¬ 16 < hi by omega), if_neg (show ¬ lim < 0 by omega), if_pos hlim, bd1_s]
  rw [if_pos (show im_i (im_setI M 130 0 0) 130 0 ≤ 0 from by show (0 : Int32) ≤ 0; decide), bd1_s]
  have f0 : fr 0 [(130, 0), (130, 8), (130, 10)] M (im_setI (im_setI (im_setI M 130 0 0) 130 8 0) 130 10 0) := fr_F (by decide) (fr_F (by decide) (fr_F (by decide) fr_refl))
  apply bd1_mk
  refine ed_mono (s_addM (PR_fr f0 (by decide +kernel) q) (by rw [show im_i (im_setI (im_setI (im_setI M 130 0 0) 130 8 0) 130 10 0) 132 = im_i M 132 from fr_c f0 132 (by decide) (by decide)]; exact hz)) ?_
  rintro M13 ⟨f1, z1, s1⟩
  have fA : fr (2 ^ 132) [(130, 0), (130, 8), (130, 10)] M M13 := fr_tr (fr_mono (by decide) (by decide) f1) (fr_mono (by decide) (by decide) f0)
  have a0 : im_i M13 130 0 = 0 := f1.1 130 0 (by decide) (by decide)
  have a8 : im_i M13 130 8 = nI 0 := f1.1 130 8 (by decide) (by decide)
  have a10 : im_i M13 130 10 = 0 := f1.1 130 10 (by decide) (by decide)
  have aw : im_i M13 130 1 = nI W ∧ im_i M13 130 2 = nI H := ⟨(fA.1 130 1 (by decide) (by decide)).trans q.2.1.1, (fA.1 130 2 (by decide) (by decide)).trans q.2.1.2⟩
  have start : FM M13 D (SR W H D lo hi lim (cd2 1 0 0 0 0)) := by
    refine ⟨0, fun _ => 0, by omega, a8, fun i j _ hj => absurd hj (by omega), fun k => ⟨fun z => ?_, fun ⟨i, hi, _⟩ => absurd hi (by omega)⟩, fun i hi => absurd hi (by omega)⟩
    have ky2 := StP_y z.1 (by omega) hlo.1
    have := (cd2_vv (v := 1) (v' := kv k) km_lt ky2 kx_lt kq_lt).mp z.2
    have := z.1.2.1
    omega
  refine bs1_q (s_findV (lo := lo) (hi := hi) (lim := lim) s1 aw (by omega) (by omega) hlo hlim start) ?_ ?_
  · rintro M31 ⟨f3, h3⟩
    replace f3 : frG M13 M31 := f3
    obtain ⟨n, f, hn, h8, hf, hS, hE⟩ := h3
    apply bd1_mk
    refine ed_mono (s_order (W := W) (H := H) (lo := lo) (hi := hi) (lim := lim) (n := n) (D := D) (f := f) ⟨⟨by omega, by omega, hlo.1, hlim⟩, hn, h8, hf, hS, hE⟩ ((f3.1 130 10 (by decide) (by decide)).trans a10)) ?_
    rintro M32 ⟨f4, h4⟩
    replace f4 : frO M31 M32 := f4
    refine ed_mk ⟨fr_tr (fr_mono (by decide) (by decide) f4) (fr_tr (fr_mono (by decide) (by decide) f3) (fr_mono (by decide) (by decide) fA)), ?_, ?_, Or.inl ⟨h4, rfl, n, f, hn, fun k hk => (hS k).mp hk⟩⟩
    · show Z0 (im_i M32 132)
      rw [show im_i M32 132 = im_i M31 132 from fr_c f4 132 (by decide) (by decide), show im_i M31 132 = im_i M13 132 from fr_c f3 132 (by decide) (by decide)]
      exact z1
    · exact (f4.1 130 0 (by decide) (by decide)).trans ((f3.1 130 0 (by decide) (by decide)).trans a0)
  · rintro ⟨t, M3⟩ ⟨e, ho, M4, f3, e2⟩
    replace e : t = -1 := e
    replace e2 : M3 = im_setI (im_setI M4 130 8 0) 130 10 0 := e2
    replace f3 : frG M13 M4 := f3
    subst e2
    refine ed_mk ⟨fr_F (by decide) (fr_F (by decide) (fr_tr (fr_mono (by decide) (by decide) f3) (fr_mono (by decide) (by decide) fA))), ?_, ?_, Or.inr ⟨e, rfl, ho⟩⟩
    · show Z0 (im_i M4 132)
      rw [show im_i M4 132 = im_i M13 132 from fr_c f3 132 (by decide) (by decide)]
      exact z1
    · exact (f3.1 130 0 (by decide) (by decide)).trans a0
