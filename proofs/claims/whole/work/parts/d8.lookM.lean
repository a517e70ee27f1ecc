/-! THE REFERENCE LOOKS EVERYWHERE -/
def EN (M : im_M) (D : Nat → Nat → Bool) (i k : Nat) : Prop := im_i M 134 (6 * i) = nI (kx k) ∧ im_i M 134 (6 * i + 1) = nI (ky k) ∧ im_i M 134 (6 * i + 2) = nI (km k) ∧ im_i M 134 (6 * i + 3) = nI (kv k) ∧ im_i M 134 (6 * i + 4) = nI (kq k) ∧ im_i M 134 (6 * i + 5) = iZ (eW D k)
/-- the places that stand, as the reference holds them -/
def FM (M : im_M) (D : Nat → Nat → Bool) (S : Nat → Prop) : Prop := ∃ (n : Nat) (f : Nat → Nat), n ≤ 300 ∧ im_i M 130 8 = nI n ∧ ijc f n ∧ (∀ k, S k ↔ ∃ i, i < n ∧ f i = k) ∧ ∀ i, i < n → EN M D i (f i)
theorem FM_fr {A : Nat} {F : List (Nat × Nat)} {M M' : im_M} {D : Nat → Nat → Bool} {S : Nat → Prop} (h : fr A F M M') (c : clr A F [134] [(130, 8)] [] = true) (q : FM M D S) : FM M' D S := by
  unfold FM EN at q ⊢
  rw [clr_f c h (a := 130) (k := 8) (by decide), clr_a c h (a := 134) (by decide)]
  exact q
theorem FM_S {M : im_M} {D : Nat → Nat → Bool} {S T : Nat → Prop} (h : ∀ k, S k ↔ T k) (q : FM M D S) : FM M D T := by
  obtain ⟨n, f, a, b, c, d, e⟩ := q
  exact ⟨n, f, a, b, c, fun k => (h k).symm.trans (d k), e⟩
def frE (M M' : im_M) : Prop := fr (2 ^ 134) [(130, 8)] M M'
theorem frE_refl {M : im_M} : fr (2 ^ 134) [(130, 8)] M M := fr_refl
theorem s_enter {M : im_M} {D : Nat → Nat → Bool} {S : Nat → Prop} {x y m v q n : Nat} {f : Nat → Nat} (b1 : x < 512) (b3 : m < 32) (b4 : v < 64) (b5 : q < 4) (hn : n < 300) (h8 : im_i M 130 8 = nI n) (hf : ijc f n) (hS : ∀ k, S k ↔ ∃ i, i < n ∧ f i = k) (hE : ∀ i, i < n → EN M D i (f i)) (hk : ¬ S (key x y m v q)) : ed (f_MPlaceRows_enter (nI x) (nI y) (nI m) (nI v) (nI q) (iZ (eW D (key x y m v q))) M) (fun r => frE M r ∧ FM r D (fun k => S k ∨ k = key x y m v q)) := by
  have s8 : ∀ (N : im_M) (p : Nat) (z : Int32), im_i (im_setI N 134 p z) 130 8 = im_i N 130 8 := fun _ _ _ => rfl
  have q0 : (6 : Int32) * nI n = nI (6 * n) := nI_m 6
  have q1 : nI (6 * n) + 1 = nI (6 * n + 1) := nI_add _ 1
  have q2 : nI (6 * n) + 2 = nI (6 * n + 2) := nI_add _ 2
  have q3 : nI (6 * n) + 3 = nI (6 * n + 3) := nI_add _ 3
  have q4 : nI (6 * n) + 4 = nI (6 * n + 4) := nI_add _ 4
  have q5 : nI (6 * n) + 5 = nI (6 * n + 5) := nI_add _ 5
  have k0 : Int32.toNatClampNeg (nI (6 * n)) = 6 * n := nI_clamp (by omega)
  have k1 : Int32.toNatClampNeg (nI (6 * n + 1)) = 6 * n + 1 := nI_clamp (by omega)
  have k2 : Int32.toNatClampNeg (nI (6 * n + 2)) = 6 * n + 2 := nI_clamp (by omega)
  have k3 : Int32.toNatClampNeg (nI (6 * n + 3)) = 6 * n + 3 := nI_clamp (by omega)
  have k4 : Int32.toNatClampNeg (nI (6 * n + 4)) = 6 * n + 4 := nI_clamp (by omega)
  have k5 : Int32.toNatClampNeg (nI (6 * n + 5)) = 6 * n + 5 := nI_clamp (by omega)
  unfold f_MPlaceRows_enter
  simp only [s8, h8, q0, q1, q2, q3, q4, q5, k0, k1, k2, k3, k4, k5]
  rw [gd_pos (by rw [inb_nI (by omega)]; omega), gd_pos (by rw [inb_nI (by omega)]; omega), gd_pos (by rw [inb_nI (by omega)]; omega), gd_pos (by rw [inb_nI (by omega)]; omega), gd_pos (by rw [inb_nI (by omega)]; omega), gd_pos (by rw [inb_nI (by omega)]; omega)]
  have hp := key_p (y := y) b1 b3 b4 b5
  refine ed_mk ⟨fr_F (by decide) (fr_I (by decide) (fr_I (by decide) (fr_I (by decide) (fr_I (by decide) (fr_I (by decide) (fr_I (by decide) fr_refl)))))), n + 1, upN f n (key x y m v q), by omega, nI_add n 1, fun i j hij hj => ?_, fun k => ?_, fun i hi => ?_⟩
  · by_cases c : j = n
    · subst c
      rw [upN_s, upN_n (by omega)]
      exact fun z => hk ((hS _).mpr ⟨i, hij, z⟩)
    · rw [upN_n c, upN_n (by omega)]
      exact hf i j hij (by omega)
  · constructor
    · rintro (a | a)
      · obtain ⟨i, hi, e⟩ := (hS k).mp a
        exact ⟨i, by omega, by rw [upN_n (by omega)]; exact e⟩
      · exact ⟨n, by omega, by rw [upN_s]; exact a.symm⟩
    · rintro ⟨i, hi, e⟩
      by_cases c : i = n
      · rw [c, upN_s] at e; exact Or.inr e.symm
      · rw [upN_n c] at e; exact Or.inl ((hS k).mpr ⟨i, by omega, e⟩)
  · have hw : ∀ p, im_i (im_setI (im_setI (im_setI (im_setI (im_setI (im_setI (im_setI M 134 (6 * n) (nI x)) 134 (6 * n + 1) (nI y)) 134 (6 * n + 2) (nI m)) 134 (6 * n + 3) (nI v)) 134 (6 * n + 4) (nI q)) 134 (6 * n + 5) (iZ (eW D (key x y m v q)))) 130 8 (nI n + 1)) 134 p = if p = 6 * n + 5 then iZ (eW D (key x y m v q)) else if p = 6 * n + 4 then nI q else if p = 6 * n + 3 then nI v else if p = 6 * n + 2 then nI m else if p = 6 * n + 1 then nI y else if p = 6 * n then nI x else im_i M 134 p := fun p => rfl
    unfold EN
    rw [hw, hw, hw, hw, hw, hw]
    by_cases c : i = n
    · subst c
      rw [upN_s, hp.1, hp.2.1, hp.2.2.1, hp.2.2.2.1, hp.2.2.2.2]
      refine ⟨?_, ?_, ?_, ?_, ?_, ?_⟩
      · rw [if_neg (by omega), if_neg (by omega), if_neg (by omega), if_neg (by omega), if_neg (by omega), if_pos rfl]
      · rw [if_neg (by omega), if_neg (by omega), if_neg (by omega), if_neg (by omega), if_pos rfl]
      · rw [if_neg (by omega), if_neg (by omega), if_neg (by omega), if_pos rfl]
      · rw [if_neg (by omega), if_neg (by omega), if_pos rfl]
      · rw [if_neg (by omega), if_pos rfl]
      · rw [if_pos rfl]
    · have := hE i (by omega)
      have no : ∀ t, t < 6 → (if 6 * i + t = 6 * n + 5 then iZ (eW D (key x y m v q)) else if 6 * i + t = 6 * n + 4 then nI q else if 6 * i + t = 6 * n + 3 then nI v else if 6 * i + t = 6 * n + 2 then nI m else if 6 * i + t = 6 * n + 1 then nI y else if 6 * i + t = 6 * n then nI x else im_i M 134 (6 * i + t)) = im_i M 134 (6 * i + t) := fun t ht => by
        rw [if_neg (by omega), if_neg (by omega), if_neg (by omega), if_neg (by omega), if_neg (by omega), if_neg (by omega)]
      have n0 := no 0 (by omega)
      rw [Nat.add_zero] at n0
      rw [upN_n c, n0, no 1 (by omega), no 2 (by omega), no 3 (by omega), no 4 (by omega), no 5 (by omega)]
      exact this
def cd2 (v m y x q : Nat) : Nat := (((v * 32 + m) * 512 + y) * 512 + x) * 4 + q
def pc2 (k : Nat) : Nat := cd2 (kv k) (km k) (ky k) (kx k) (kq k)
def SR (W H : Nat) (D : Nat → Nat → Bool) (lo hi lim T k : Nat) : Prop := StP W H D lo hi lim k ∧ pc2 k < T
theorem SR_gap {W H lo hi lim T U : Nat} {D : Nat → Nat → Bool} (hTU : T ≤ U) (h : ∀ k, StP W H D lo hi lim k → T ≤ pc2 k → pc2 k < U → False) (k : Nat) : SR W H D lo hi lim T k ↔ SR W H D lo hi lim U k := by
  unfold SR
  constructor
  · rintro ⟨a, b⟩
    exact ⟨a, by omega⟩
  · rintro ⟨a, b⟩
    rcases Nat.lt_or_ge (pc2 k) T with z | z
    · exact ⟨a, z⟩
    · exact (h k a z b).elim
theorem StP_y {W H lo hi lim k : Nat} {D : Nat → Nat → Bool} (h : StP W H D lo hi lim k) (hH : H ≤ 512) (h1 : 1 ≤ lo) : ky k < 512 := by
  have hz : 1 * 21 ≤ ksz k := Nat.mul_le_mul (by have := h.1; omega) (by have := h.2.1; omega)
  have := h.2.2.1
  omega
/-- what the reference needs to look -/
def LM (M : im_M) (W H v : Nat) (D : Nat → Nat → Bool) : Prop := SUMS (im_i M 132) W H D ∧ (im_i M 130 1 = nI W ∧ im_i M 130 2 = nI H) ∧ RI M (17 + 4 * v) (17 + 4 * v) 0
theorem LM_fr {A : Nat} {F : List (Nat × Nat)} {M M' : im_M} {W H v : Nat} {D : Nat → Nat → Bool} (h : fr A F M M') (c : clr A F [132, 133] [(130, 1), (130, 2), (130, 6)] [] = true) (q : LM M W H v D) : LM M' W H v D := by
  unfold LM RI RN at q ⊢
  rw [clr_f c h (a := 130) (k := 1) (by decide), clr_f c h (a := 130) (k := 2) (by decide), clr_f c h (a := 130) (k := 6) (by decide), clr_a c h (a := 132) (by decide), clr_a c h (a := 133) (by decide)]
  exact q
theorem s_isPlace {M : im_M} {W H v x y z : Nat} {D : Nat → Nat → Bool} (L : LM M W H v D) (hW : W ≤ 512) (hH : H ≤ 512) (hx : x < 10000) (hy : y < 10000) (hz : z < 10000) : f_MPlaceRows_isPlace (nI x) (nI y) (nI z) M = some (if x + z ≤ W ∧ y + z ≤ H then 1 else 0) := by
  unfold f_MPlaceRows_isPlace
  have c0 : ∀ z : Nat, z < 10000 → (nI z < 0) = (z < 0) := fun z hz => nIlt (c := 0) (by omega) (by omega)
  have e1 : nI W - nI z = iZ ((W : Int) - (z : Int)) := by rw [iZ_nI, iZ_nI, iZ_sub]
  have e2 : nI H - nI z = iZ ((H : Int) - (z : Int)) := by rw [iZ_nI, iZ_nI, iZ_sub]
  rw [L.2.1.1, L.2.1.2, e1, e2]
  simp only [c0 x hx, c0 y hy]
  rw [if_neg (by omega), iZ_nI (n := x), iZ_nI (n := y), if_iZlt (by omega) (by omega), if_iZlt (by omega) (by omega)]
  by_cases c1 : (W : Int) - (z : Int) < (x : Int)
  · rw [if_pos c1, if_neg (by omega)]
  · rw [if_neg c1, if_neg (by omega)]
    by_cases c2 : (H : Int) - (z : Int) < (y : Int)
    · rw [if_pos c2, if_neg (by omega)]
    · rw [if_neg c2, if_pos (by omega)]
theorem cd2_x {P x : Nat} : (P * 512 + x) * 4 + 4 = (P * 512 + (x + 1)) * 4 + 0 := by omega
theorem cd2_4 {v m y x : Nat} : cd2 v m y x 4 = cd2 v m y (x + 1) 0 := cd2_x
theorem s_lookQ {M : im_M} {W H lo hi lim m v x y : Nat} {D : Nat → Nat → Bool} (L : LM M W H v D) (hW : W ≤ 512) (hH : H ≤ 512) (hm : 1 ≤ lo ∧ lo ≤ m ∧ m ≤ hi ∧ hi ≤ 16) (hv : 1 ≤ v ∧ v ≤ 40) (hl : lim ≤ 500) (hx : x + m * (17 + 4 * v) ≤ W) (hy : y + m * (17 + 4 * v) ≤ H) (hF : FM M D (SR W H D lo hi lim (cd2 v m y x 0))) : ed (lp (uc2 (f_MPlaceRows_look_L42 (nI m) (nI v) (nI lim) (nI (m * (17 + 4 * v))) (nI y) (nI x))) (0, M)) (sQ (fun M3 => frE M M3 ∧ FM M3 D (SR W H D lo hi lim (cd2 v m y (x + 1) 0))) (fun t => t.1 = 0 ∧ frE M t.2 ∧ OV (StP W H D lo hi lim))) := by
  have hz : 1 * 21 ≤ m * (17 + 4 * v) := Nat.mul_le_mul (by omega) (by omega)
  refine lp_inv (fun n (s : Int32 × im_M) => ∃ q : Nat, q + n = 4 ∧ s.1 = nI q ∧ frE M s.2 ∧ FM s.2 D (SR W H D lo hi lim (cd2 v m y x q))) ?_ (k := 4) ⟨0, by omega, rfl, frE_refl, hF⟩
  rintro n ⟨x26, M27⟩ ⟨q, hq, e1, f, h⟩
  replace e1 : x26 = nI q := e1
  replace f : frE M M27 := f
  replace h : FM M27 D (SR W H D lo hi lim (cd2 v m y x q)) := h
  subst e1
  show ed (f_MPlaceRows_look_L42 (nI m) (nI v) (nI lim) _ (nI y) (nI x) (nI q) M27) _
  unfold f_MPlaceRows_look_L42
  have c4 : ((4 : Int32) ≤ nI q) = (4 ≤ q) := nIl (x := 4) (by omega) (by omega)
  simp only [c4]
  by_cases h4 : 4 ≤ q
  · rw [if_pos h4]
    obtain rfl : q = 4 := by omega
    have e : cd2 v m y x 4 = cd2 v m y (x + 1) 0 := cd2_4
    rw [e] at h
    exact lpo_r ⟨f, h⟩
  · have L27 : LM M27 W H v D := LM_fr f (by decide +kernel) L
    obtain ⟨r, er, u, rfl, hu, u0, u1⟩ := s_wrongM (q := q) L27.1 hW hH L27.2.2 hv (by omega) (by omega) hl hx hy
    rw [if_neg h4, er, bd1_s]
    obtain ⟨kb, kk⟩ := bK_key (x := x) (y := y) (m := m) (v := v) (q := q) (by omega) (by omega) (by omega) (by omega)
    have hE : eW D (key x y m v q) = EE (17 + 4 * v) q m (BB D m x y) := by rw [bK_eW kb, kk]
    rw [← hE] at hu
    have pk : pc2 (key x y m v q) = cd2 v m y x q := by
      unfold pc2
      rw [kb.1, kb.2.1, kb.2.2.1, kb.2.2.2, kk]
    have pinj : ∀ k, StP W H D lo hi lim k → pc2 k = cd2 v m y x q → k = key x y m v q := by
      intro k hk e
      unfold pc2 cd2 at e
      have a1 := eq4 kq_lt (show q < 4 by omega) e
      have a2 := eq4 kx_lt (show x < 512 by omega) a1.1
      have a3 := eq4 (StP_y hk hH hm.1) (show y < 512 by omega) a2.1
      have a4 := eq4 km_lt (show m < 32 by omega) a3.1
      rw [← a1.2, ← a2.2, ← a3.2, ← a4.2, ← a4.1]
      exact key_of.symm
    have c1e : cd2 v m y x q + 1 = cd2 v m y x (q + 1) := rfl
    show ed (if nI lim < iZ u then _ else _) _
    rw [iZ_nI (n := lim), if_iZlt (by omega) (by omega)]
    by_cases c5 : (lim : Int) < u
    · rw [if_pos c5]
      refine lpo_l (n - 1) (by omega) ⟨q + 1, by omega, nI_add q 1, f, FM_S (SR_gap (by omega) ?_) h⟩
      intro k hk h1 h2
      have := pinj k hk (by omega)
      subst this
      have := hk.2.2.2
      rcases hu with a | ⟨a, b⟩ <;> omega
    · have hu2 : u = eW D (key x y m v q) := by
        rcases hu with a | ⟨a, b⟩
        · exact a
        · exact absurd a c5
      have hst : StP W H D lo hi lim (key x y m v q) := by
        refine ⟨by rw [kb.2.2.1]; omega, by rw [kb.2.2.2]; exact hv, ?_, by omega⟩
        unfold ksz
        rw [kb.1, kb.2.1, kb.2.2.1, kb.2.2.2]
        exact ⟨hx, hy⟩
      obtain ⟨N, g, hN, h8, hg, hS, hEN⟩ := h
      have e300 : (nI N = 300) = (N = 300) := nIe (c := 300) (by omega) (by omega)
      have hnk : ¬ SR W H D lo hi lim (cd2 v m y x q) (key x y m v q) := fun z => by
        have := z.2
        omega
      rw [if_neg c5, h8]
      simp only [e300]
      by_cases c6 : N = 300
      · rw [if_neg (fun z => z c6)]
        subst c6
        refine lpo_r ⟨rfl, f, OV_S (fun k => ?_) (ov_1 hg (fun i hi => (hS _).mpr ⟨i, hi, rfl⟩) hnk)⟩
        rintro (a | a)
        · exact a.1
        · rw [a]; exact hst
      · rw [if_pos c6, hu2]
        apply bd1_mk
        refine ed_mono (s_enter (by omega) (by omega) (by omega) (by omega) (by omega) h8 hg hS hEN hnk) ?_
        rintro M30 ⟨f2, h2⟩
        refine lpo_l (n - 1) (by omega) ⟨q + 1, by omega, nI_add q 1, fr_tr f2 f, FM_S (fun k => ?_) h2⟩
        constructor
        · rintro (a | a)
          · exact ⟨a.1, by have := a.2; omega⟩
          · subst a
            exact ⟨hst, by omega⟩
        · rintro ⟨a, b⟩
          rcases Nat.lt_or_ge (pc2 k) (cd2 v m y x q) with z | z
          · exact Or.inl ⟨a, z⟩
          · exact Or.inr (pinj k a (by omega))
theorem cd2_row {P P' x X q : Nat} (hX : X < 512) (hq : q < 4) (h1 : (P * 512 + x) * 4 + 0 ≤ (P' * 512 + X) * 4 + q) (h2 : (P' * 512 + X) * 4 + q < ((P + 1) * 512 + 0) * 4 + 0) : P' = P ∧ x ≤ X := by omega
theorem cd2_yy {P P' y Y X q : Nat} (hX : X < 512) (hY : Y < 512) (hq : q < 4) (h1 : ((P * 512 + y) * 512 + 0) * 4 + 0 ≤ ((P' * 512 + Y) * 512 + X) * 4 + q) (h2 : ((P' * 512 + Y) * 512 + X) * 4 + q < (((P + 1) * 512 + 0) * 512 + 0) * 4 + 0) : P' = P ∧ y ≤ Y := by omega
theorem s_look {M : im_M} {W H lo hi lim m v : Nat} {D : Nat → Nat → Bool} (L : LM M W H v D) (hW : W ≤ 512) (hH : H ≤ 512) (hm : 1 ≤ lo ∧ lo ≤ m ∧ m ≤ hi ∧ hi ≤ 16) (hv : 1 ≤ v ∧ v ≤ 40) (hl : lim ≤ 500) (hF : FM M D (SR W H D lo hi lim (cd2 v m 0 0 0))) : ed (f_MPlaceRows_look (nI m) (nI v) (nI lim) M) (fun r => frE M r.2 ∧ ((r.1 = 1 ∧ FM r.2 D (SR W H D lo hi lim (cd2 v (m + 1) 0 0 0))) ∨ (r.1 = 0 ∧ OV (StP W H D lo hi lim)))) := by
  have e17 : (17 : Int32) + (4 : Int32) * nI v = nI (17 + 4 * v) := by rw [nI_m, nI_n, nI_add]
  have hz : 1 * 21 ≤ m * (17 + 4 * v) := Nat.mul_le_mul (by omega) (by omega)
  have hz2 : m * (17 + 4 * v) ≤ 16 * 177 := Nat.mul_le_mul (by omega) (by omega)
  unfold f_MPlaceRows_look f_MPlaceRows_side
  rw [e17, bd1_s, nI_mul]
  refine bs1_q (P := fun M3 => frE M M3 ∧ FM M3 D (SR W H D lo hi lim (cd2 v (m + 1) 0 0 0))) (R := fun t => t.1 = 0 ∧ frE M t.2 ∧ OV (StP W H D lo hi lim)) (lp_inv (fun n (s : Int32 × im_M) => ∃ y : Nat, y + n = 513 ∧ y ≤ 512 ∧ s.1 = nI y ∧ frE M s.2 ∧ FM s.2 D (SR W H D lo hi lim (cd2 v m y 0 0))) ?_ (k := 513) ⟨0, by omega, by omega, rfl, frE_refl, hF⟩) (fun t h => ed_mk ⟨h.1, Or.inl ⟨rfl, h.2⟩⟩) (fun t h => ed_mk ⟨h.2.1, Or.inr ⟨h.1, h.2.2⟩⟩)
  rintro n ⟨x7, M8⟩ ⟨y, hy, hy2, e1, f, h⟩
  replace e1 : x7 = nI y := e1
  replace f : frE M M8 := f
  replace h : FM M8 D (SR W H D lo hi lim (cd2 v m y 0 0)) := h
  subst e1
  have L8 : LM M8 W H v D := LM_fr f (by decide +kernel) L
  have ip := s_isPlace (x := 0) (y := y) (z := m * (17 + 4 * v)) L8 hW hH (by omega) (by omega) (by omega)
  show ed (f_MPlaceRows_look_L11 (nI m) (nI v) (nI lim) (nI (m * (17 + 4 * v))) (nI y) M8) _
  unfold f_MPlaceRows_look_L11
  have z0 : (0 : Int32) = nI 0 := rfl
  rw [show f_MPlaceRows_isPlace 0 (nI y) (nI (m * (17 + 4 * v))) M8 = _ from ip, bd1_s]
  by_cases c1 : 0 + m * (17 + 4 * v) ≤ W ∧ y + m * (17 + 4 * v) ≤ H
  · rw [if_pos c1, if_neg (by decide)]
    refine bs1_q (P := fun M3 => frE M M3 ∧ FM M3 D (SR W H D lo hi lim (cd2 v m (y + 1) 0 0))) (R := fun t => t.1 = 0 ∧ frE M t.2 ∧ OV (StP W H D lo hi lim)) (lp_inv (fun n (s : Int32 × im_M) => ∃ x : Nat, x + n = 513 ∧ x ≤ 512 ∧ s.1 = nI x ∧ frE M s.2 ∧ FM s.2 D (SR W H D lo hi lim (cd2 v m y x 0))) ?_ (k := 513) ⟨0, by omega, by omega, rfl, f, h⟩) ?_ ?_
    · rintro n ⟨x16, M17⟩ ⟨x, hx, hx2, e1, f, h⟩
      replace e1 : x16 = nI x := e1
      replace f : frE M M17 := f
      replace h : FM M17 D (SR W H D lo hi lim (cd2 v m y x 0)) := h
      subst e1
      have L17 : LM M17 W H v D := LM_fr f (by decide +kernel) L
      show ed (f_MPlaceRows_look_L26 (nI m) (nI v) (nI lim) (nI (m * (17 + 4 * v))) (nI y) (nI x) M17) _
      unfold f_MPlaceRows_look_L26
      rw [s_isPlace L17 hW hH (by omega) (by omega) (by omega), bd1_s]
      by_cases c2 : x + m * (17 + 4 * v) ≤ W ∧ y + m * (17 + 4 * v) ≤ H
      · rw [if_pos c2, if_neg (by decide)]
        refine bs1_q (s_lookQ L17 hW hH hm hv hl c2.1 c2.2 h) ?_ ?_
        · rintro M3 ⟨f3, h3⟩
          exact lpo_l (n - 1) (by omega) ⟨x + 1, by omega, by omega, nI_add x 1, fr_tr f3 f, h3⟩
        · rintro ⟨t, M3⟩ ⟨e, f3, h3⟩
          exact lpo_r ⟨e, fr_tr f3 f, h3⟩
      · rw [if_neg c2, if_pos rfl]
        refine lpo_r ⟨f, FM_S (SR_gap ?_ ?_) h⟩
        · unfold cd2
          generalize v * 32 + m = P
          omega
        · intro k hk h1 h2
          have ky2 := StP_y hk hH hm.1
          unfold pc2 cd2 at h1 h2
          rw [show (v * 32 + m) * 512 + (y + 1) = (v * 32 + m) * 512 + y + 1 from (Nat.add_assoc _ _ _).symm] at h2
          obtain ⟨e, hxx⟩ := cd2_row (P := (v * 32 + m) * 512 + y) (P' := (kv k * 32 + km k) * 512 + ky k) kx_lt kq_lt h1 h2
          have a3 := eq4 ky2 (show y < 512 by omega) e
          have a4 := eq4 km_lt (show m < 32 by omega) a3.1
          have := hk.2.2.1
          unfold ksz at this
          rw [a4.1, a4.2, a3.2] at this
          omega
    · rintro M3 ⟨f3, h3⟩
      exact lpo_l (n - 1) (by omega) ⟨y + 1, by omega, by omega, nI_add y 1, f3, h3⟩
    · rintro t ⟨a, b, d⟩
      exact lpo_r ⟨a, b, d⟩
  · rw [if_neg c1, if_pos rfl]
    refine lpo_r ⟨f, FM_S (SR_gap ?_ ?_) h⟩
    · unfold cd2
      rw [show v * 32 + (m + 1) = v * 32 + m + 1 from (Nat.add_assoc _ _ _).symm]
      generalize v * 32 + m = P
      omega
    · intro k hk h1 h2
      have ky2 := StP_y hk hH hm.1
      unfold pc2 cd2 at h1 h2
      rw [show v * 32 + (m + 1) = v * 32 + m + 1 from (Nat.add_assoc _ _ _).symm] at h2
      obtain ⟨e, hyy⟩ := cd2_yy (P := v * 32 + m) (P' := kv k * 32 + km k) kx_lt ky2 kq_lt h1 h2
      have a4 := eq4 km_lt (show m < 32 by omega) e
      have := hk.2.2.1
      unfold ksz at this
      rw [a4.1, a4.2] at this
      omega
