/-! CALLS: DECODE -/
theorem s_fillR {M : im_M} {W H k N X Y m v q : Nat} {D : Nat → Nat → Bool} (p : PR M W H D) (hk : k < N) (hN : N ≤ 300) (h10 : im_i M 130 10 = nI N) (d0 : im_i M 135 (6 * k) = nI X) (d1 : im_i M 135 (6 * k + 1) = nI Y) (d2 : im_i M 135 (6 * k + 2) = nI m) (d3 : im_i M 135 (6 * k + 3) = nI v) (d4 : im_i M 135 (6 * k + 4) = nI q) (hm : 1 ≤ m ∧ m ≤ 16) (hv : 1 ≤ v ∧ v ≤ 40) (hq : q < 4) (hX : X + m * (17 + 4 * v) ≤ W) (hY : Y + m * (17 + 4 * v) ≤ H) (h7 : im_i M 108 7 = nI v) (h8 : im_i M 108 8 = nI (17 + 4 * v)) (hz : ∀ x y, x < 17 + 4 * v → y < 17 + 4 * v → im_i M 112 (177 * y + x) = 0) : ed (lp (uc2 (f_M_decode_L59 (nI k) (nI (17 + 4 * v)))) (0, M)) (fun R => (∀ x y, x < 17 + 4 * v → y < 17 + 4 * v → im_i R 112 (177 * y + x) = bI (gQ D X Y m q (17 + 4 * v) x y)) ∧ PR R W H D ∧ fr (2 ^ 112 ||| 2 ^ 131) [(108, 0), (130, 0)] M R) := by
  obtain ⟨n, en⟩ : ∃ n, n = 17 + 4 * v := ⟨_, rfl⟩
  have nX := hX
  have nY := hY
  rw [← en] at h8 hz ⊢
  refine lp_inv (fun f (s : Int32 × im_M) => ∃ y : Nat, y + f = n ∧ s.1 = nI y ∧ (∀ x j, x < n → j < n → im_i s.2 112 (177 * j + x) = if j < y then bI (gQ D X Y m q n x j) else 0) ∧ PR s.2 W H D ∧ fr (2 ^ 112 ||| 2 ^ 131) [(108, 0), (130, 0)] M s.2) ?_ (k := n) ⟨0, by omega, rfl, fun x j hx hj => by rw [if_neg (Nat.not_lt_zero _)]; exact hz x j hx hj, p, fr_refl⟩
  rintro f ⟨x8, M9⟩ ⟨y, hy, e1, g9, p9, f9⟩
  replace e1 : x8 = nI y := e1
  replace g9 : ∀ x j, x < n → j < n → im_i M9 112 (177 * j + x) = if j < y then bI (gQ D X Y m q n x j) else 0 := g9
  replace p9 : PR M9 W H D := p9
  replace f9 : fr (2 ^ 112 ||| 2 ^ 131) [(108, 0), (130, 0)] M M9 := f9
  subst e1
  show ed (f_M_decode_L59 (nI k) (nI n) (nI y) M9) _
  unfold f_M_decode_L59
  rw [if_nIl (by omega) (by omega)]
  by_cases c : n ≤ y
  · rw [if_pos c]
    refine lpo_r ⟨fun x j hx hj => ?_, p9, f9⟩
    rw [g9 x j hx hj, if_pos (by omega)]
  · rw [if_neg c]
    apply bd1_mk
    refine ed_mono (lp_inv (fun f (s : Int32 × im_M) => ∃ t : Nat, t + f = 3 ∧ s.1 = nI (64 * t) ∧ (∀ x j, x < n → j < n → im_i s.2 112 (177 * j + x) = if j < y ∨ (j = y ∧ x < 64 * t) then bI (gQ D X Y m q n x j) else 0) ∧ PR s.2 W H D ∧ fr (2 ^ 112 ||| 2 ^ 131) [(108, 0), (130, 0)] M s.2) (Q := fun R => (∀ x j, x < n → j < n → im_i R 112 (177 * j + x) = if j < y + 1 then bI (gQ D X Y m q n x j) else 0) ∧ PR R W H D ∧ fr (2 ^ 112 ||| 2 ^ 131) [(108, 0), (130, 0)] M R) ?_ (k := 3) ⟨0, by omega, rfl, fun x j hx hj => ?_, p9, f9⟩) ?_
    · rintro f ⟨x14, M15⟩ ⟨t, ht, e1, g15, p15, f15⟩
      replace e1 : x14 = nI (64 * t) := e1
      replace g15 : ∀ x j, x < n → j < n → im_i M15 112 (177 * j + x) = if j < y ∨ (j = y ∧ x < 64 * t) then bI (gQ D X Y m q n x j) else 0 := g15
      replace p15 : PR M15 W H D := p15
      replace f15 : fr (2 ^ 112 ||| 2 ^ 131) [(108, 0), (130, 0)] M M15 := f15
      subst e1
      show ed (f_M_decode_L67 (nI k) (nI n) (nI y) (nI (64 * t)) M15) _
      unfold f_M_decode_L67
      rw [if_nIl (by omega) (by omega)]
      by_cases d : n ≤ 64 * t
      · rw [if_pos d]
        refine lpo_r ⟨fun x j hx hj => ?_, p15, f15⟩
        rw [g15 x j hx hj]
        by_cases w : j < y + 1
        · rw [if_pos w, if_pos (by omega)]
        · rw [if_neg w, if_neg (by omega)]
      · rw [if_neg d]
        have c135 : ∀ j, im_i M15 135 j = im_i M 135 j := fun j => f15.1 135 j (by decide) (by simp)
        apply bd2_mk
        refine ed_mono (s_modules (c := 64 * t) (y := y) p15 hk hN ((f15.1 130 10 (by decide) (by decide)).trans h10) ((c135 _).trans d0) ((c135 _).trans d1) ((c135 _).trans d2) ((c135 _).trans d3) ((c135 _).trans d4) hm hv hq nX nY (by omega) (by omega)) ?_
        rintro ⟨x16, M16⟩ ⟨b16, p16, f16⟩
        replace b16 : ∀ b, b < 64 → lb x16 b = (decide (64 * t + b < 17 + 4 * v) && gQ D X Y m q (17 + 4 * v) (64 * t + b) y) := b16
        rw [← en] at b16
        replace p16 : PR M16 W H D := p16
        replace f16 : fr (2 ^ 131) [(130, 0)] M15 M16 := f16
        have fb : fr (2 ^ 112 ||| 2 ^ 131) [(108, 0), (130, 0)] M M16 := fr_tr (fr_mono (by decide) (by simp) f16) f15
        apply bd2_mk
        refine ed_mono (s_spoilD (n := n) (v := v) (c := 64 * t) (y := y) (g := fun b => gQ D X Y m q n (64 * t + b) y) ((fb.1 108 7 (by decide) (by decide)).trans h7) ((fb.1 108 8 (by decide) (by decide)).trans h8) hv (by omega) (by omega) (by omega) b16 (fun b hb hb2 => ?_)) ?_
        · rw [f16.1 112 _ (by decide) (by simp), g15 (64 * t + b) y hb2 (by omega), if_neg (by omega)]
        · rintro ⟨x17, M17⟩ ⟨a1, a2, a3⟩
          replace a1 : ∀ b, b < 64 → 64 * t + b < n → im_i M17 112 (177 * y + (64 * t + b)) = bI (gQ D X Y m q n (64 * t + b) y) := a1
          replace a2 : ∀ j, (∀ b, b < 64 → 64 * t + b < n → j ≠ 177 * y + (64 * t + b)) → im_i M17 112 j = im_i M16 112 j := a2
          replace a3 : fr (2 ^ 112) [(108, 0)] M16 M17 := a3
          refine lpo_l (f - 1) (by omega) ⟨t + 1, by omega, nI_add (64 * t) 64, fun x j hx hj => ?_, PR_fr a3 (by decide +kernel) p16, fr_tr (fr_mono (by decide) (by simp) a3) fb⟩
          show im_i M17 112 (177 * j + x) = _
          by_cases w : j = y ∧ 64 * t ≤ x ∧ x < 64 * t + 64
          · obtain ⟨w1, w2, w3⟩ := w
            obtain ⟨b, rfl⟩ : ∃ b, x = 64 * t + b := ⟨x - 64 * t, by omega⟩
            rw [w1, a1 b (by omega) hx, if_pos (by omega)]
          · rw [a2 _ (fun b hb hb2 z => w (by omega)), f16.1 112 _ (by decide) (by simp), g15 x j hx hj]
            by_cases u : j < y ∨ (j = y ∧ x < 64 * t)
            · rw [if_pos u, if_pos (by omega)]
            · rw [if_neg u, if_neg (by omega)]
    · show im_i M9 112 _ = _
      rw [g9 x j hx hj]
      by_cases w : j < y
      · rw [if_pos w, if_pos (by omega)]
      · rw [if_neg w, if_neg (by omega)]
    · rintro R ⟨r1, r2, r3⟩
      exact lpo_l (f - 1) (by omega) ⟨y + 1, by omega, nI_add y 1, r1, r2, r3⟩
theorem s_zero {M : im_M} : ed (lp (uc2 (f_MSquareRows_blank_L41)) (0, M)) (fun R => (∀ j, j < 31329 → im_i R 112 j = 0) ∧ fr (2 ^ 112) [] M R) := by
  refine lp_inv (fun f (s : Int32 × im_M) => ∃ i : Nat, i + f = 31329 ∧ s.1 = nI i ∧ (∀ j, j < i → im_i s.2 112 j = 0) ∧ fr (2 ^ 112) [] M s.2) ?_ (k := 31329) ⟨0, by omega, rfl, fun j hj => absurd hj (Nat.not_lt_zero _), fr_refl⟩
  rintro f ⟨x4, M5⟩ ⟨i, hi, e1, g, fr5⟩
  replace e1 : x4 = nI i := e1
  replace g : ∀ j, j < i → im_i M5 112 j = 0 := g
  replace fr5 : fr (2 ^ 112) [] M M5 := fr5
  subst e1
  show ed (f_MSquareRows_blank_L41 (nI i) M5) _
  unfold f_MSquareRows_blank_L41
  have k0 : ((31329 : Int32) ≤ nI i) = (31329 ≤ i) := nIl (x := 31329) (by omega) (by omega)
  simp only [k0]
  by_cases c : 31329 ≤ i
  · rw [if_pos c]
    exact lpo_r ⟨fun j hj => g j (by omega), fr5⟩
  · rw [if_neg c, gd_pos (by rw [inb_nI (by omega)]; omega), nI_clamp (by omega)]
    refine lpo_l (f - 1) (by omega) ⟨i + 1, by omega, nI_add i 1, fun j hj => ?_, fr_I (by decide) fr5⟩
    show im_i (im_setI M5 112 i 0) 112 j = 0
    by_cases e : j = i
    · subst e; rw [hit]
    · rw [sk1 (fun z => e z.2)]; exact g j (by omega)
theorem s_blank {M : im_M} {v : Nat} (hv : 1 ≤ v ∧ v ≤ 40) : ed (f_MSquareRows_blank (nI v) M) (fun r => r.1 = nI (17 + 4 * v) ∧ im_i r.2 108 7 = nI v ∧ im_i r.2 108 8 = nI (17 + 4 * v) ∧ (∀ j, j < 31329 → im_i r.2 112 j = 0) ∧ (∃ s0, zG (17 + 4 * v) s0 ∧ im_i r.2 113 = (frmG (17 + 4 * v) v (fmW 0) s0).2) ∧ fr (2 ^ 112 ||| 2 ^ 113) [(108, 0), (108, 7), (108, 8), (108, 9)] M r.2) := by
  unfold f_MSquareRows_blank
  have a1 : (nI v < 1) = (v < 1) := nIlt (c := 1) (by omega) (by omega)
  have a2 : (nI v ≤ 40) = (v ≤ 40) := nIl (c := 40) (by omega) (by omega)
  simp only [a1, a2]
  rw [if_neg (show ¬ v < 1 by omega), if_pos hv.2, if_pos (show im_i (im_setI M 108 0 0) 108 0 ≤ 0 by rw [hit]; decide)]
  apply bd1_mk
  refine ed_mono (s_frameG (M := im_setI (im_setI M 108 0 0) 108 7 (nI v)) hv) ?_
  rintro M2 ⟨s0, z0, g1, g2, g3, g4⟩
  apply bd1_mk
  refine ed_mono s_zero ?_
  rintro M6 ⟨z6, f6⟩
  have fb : fr (2 ^ 112 ||| 2 ^ 113) [(108, 0), (108, 7), (108, 8), (108, 9)] M M6 := fr_tr (fr_mono (by decide) (by simp) f6) (fr_tr (fr_mono (by decide) (by simp) g4) (fr_F (by decide) (fr_F (by decide) (fr_F (by decide) fr_refl))))
  have b8 : im_i M6 108 8 = nI (17 + 4 * v) := (f6.1 108 8 (by decide) (by simp)).trans g1
  refine ed_mk ⟨?_, ?_, ?_, fun j hj => ?_, ⟨s0, z0, ?_⟩, fr_F (by decide) fb⟩
  · show im_i (im_setI M6 108 9 0) 108 8 = _
    rw [sk1 (by omega)]; exact b8
  · show im_i (im_setI M6 108 9 0) 108 7 = _
    rw [sk1 (by omega), f6.1 108 7 (by decide) (by simp), g4.1 108 7 (by decide) (by simp), sk1 (by omega)]
    exact hit
  · show im_i (im_setI M6 108 9 0) 108 8 = _
    rw [sk1 (by omega)]; exact b8
  · show im_i (im_setI M6 108 9 0) 112 j = 0
    rw [sk1 (by omega)]; exact z6 j hj
  · show im_i (im_setI M6 108 9 0) 113 = _
    rw [up_o (by decide), fr_c f6 113 (by decide) (by simp), g3]
theorem s_placeM {M : im_M} {k n t : Nat} (h : im_i M 130 10 = nI n) (hn : n ≤ 300) (hk : k < n) (ht : t ≤ 5) : f_MPlaceRows_place (nI k) (nI t) M = some (im_i M 135 (6 * k + t), im_setI M 130 0 0) := by
  unfold f_MPlaceRows_place
  have a1 : (nI t < 0) = (t < 0) := nIlt (c := 0) (by omega) (by omega)
  have a2 : (nI t ≤ 5) = (t ≤ 5) := nIl (c := 5) (by omega) (by omega)
  have a3 : (nI k < 0) = (k < 0) := nIlt (c := 0) (by omega) (by omega)
  have a4 : (nI k < nI n) = (k < n) := nIlt (by omega) (by omega)
  have e6 : (6 : Int32) * nI k + nI t = nI (6 * k + t) := by rw [nI_m, nI_add]
  simp only [jn0, a1, a2, a3]
  rw [if_neg (show ¬ t < 0 by omega), if_pos ht, if_pos (show im_i (im_setI M 130 0 0) 130 0 ≤ 0 by rw [hit]; decide), if_neg (show ¬ k < 0 by omega), sk1 (by omega), h]
  simp only [a4]
  rw [if_pos hk, e6, gd_pos (by rw [inb_nI (by omega)]; omega), nI_clamp (by omega), sk1 (by omega)]
theorem s_copyB {M : im_M} {n : Nat} (hn : n ≤ 3000) (h : im_i M 108 4 = nI n) : ed (lp (uc2 (f_M_decode_L144 (nI n))) (0, M)) (fun R => (∀ j, j < n → im_i R 137 j = im_i M 111 j) ∧ fr (2 ^ 137) [(108, 0)] M R) := by
  refine lp_inv (fun k (s : Int32 × im_M) => ∃ i : Nat, i + k = n ∧ s.1 = nI i ∧ (∀ j, j < i → im_i s.2 137 j = im_i M 111 j) ∧ fr (2 ^ 137) [(108, 0)] M s.2) ?_ (k := n) ⟨0, by omega, rfl, fun j hj => absurd hj (Nat.not_lt_zero _), fr_refl⟩
  rintro k ⟨x24, M25⟩ ⟨i, hi, e1, g, f⟩
  replace e1 : x24 = nI i := e1
  replace g : ∀ j, j < i → im_i M25 137 j = im_i M 111 j := g
  replace f : fr (2 ^ 137) [(108, 0)] M M25 := f
  subst e1
  show ed (f_M_decode_L144 (nI n) (nI i) M25) _
  unfold f_M_decode_L144
  rw [if_nIl (by omega) (by omega)]
  by_cases c : n ≤ i
  · rw [if_pos c]
    exact lpo_r ⟨fun j hj => g j (by omega), f⟩
  · have at1 : f_MSquareRows_at (nI i) M25 = some (im_i M 111 i, im_setI M25 108 0 0) := by
      unfold f_MSquareRows_at
      have a1 : (nI i < 0) = (i < 0) := nIlt (c := 0) (by omega) (by omega)
      have a2 : (nI i < nI n) = (i < n) := nIlt (by omega) (by omega)
      simp only [jn0, a1]
      rw [if_neg (show ¬ i < 0 by omega), sk1 (by omega), f.1 108 4 (by decide) (by decide), h]
      simp only [a2]
      rw [if_pos (by omega), gd_pos (by rw [inb_nI (by omega)]; omega), nI_clamp (by omega), sk1 (by omega), f.1 111 i (by decide) (by simp)]
    rw [if_neg c, at1, bd2_s, gd_pos (by rw [inb_nI (by omega)]; omega), nI_clamp (by omega)]
    refine lpo_l (k - 1) (by omega) ⟨i + 1, by omega, nI_add i 1, fun j hj => ?_, fr_I (by decide) (fr_F (by decide) f)⟩
    show im_i (im_setI (im_setI M25 108 0 0) 137 i _) 137 j = _
    by_cases e : j = i
    · subst e
      rw [hit]
    · rw [sk1 (fun z => e z.2), sk1 (by omega)]
      exact g j (by omega)
noncomputable def f_H_decodeEnd (x5 : Int32) (M5 : im_M) : Option (Int32 × im_M) := gd (inb 6 7) <| if x5 = 0 then gd (inb 0 7) <| gd (inb 1 7) <| gd (inb 2 7) <| gd (inb 3 7) <| gd (inb 4 7) <| some ((im_i (im_setI (im_setI (im_setI (im_setI (im_setI (im_setI (im_setI M5 67 (Int32.toNatClampNeg 6) x5) 67 (Int32.toNatClampNeg 0) 0) 67 (Int32.toNatClampNeg 1) (im_i (im_setI (im_setI M5 67 (Int32.toNatClampNeg 6) x5) 67 (Int32.toNatClampNeg 0) 0) 38 2)) 67 (Int32.toNatClampNeg 2) (im_i (im_setI (im_setI (im_setI M5 67 (Int32.toNatClampNeg 6) x5) 67 (Int32.toNatClampNeg 0) 0) 67 (Int32.toNatClampNeg 1) (im_i (im_setI (im_setI M5 67 (Int32.toNatClampNeg 6) x5) 67 (Int32.toNatClampNeg 0) 0) 38 2)) 38 3)) 67 (Int32.toNatClampNeg 3) (im_i (im_setI (im_setI (im_setI (im_setI M5 67 (Int32.toNatClampNeg 6) x5) 67 (Int32.toNatClampNeg 0) 0) 67 (Int32.toNatClampNeg 1) (im_i (im_setI (im_setI M5 67 (Int32.toNatClampNeg 6) x5) 67 (Int32.toNatClampNeg 0) 0) 38 2)) 67 (Int32.toNatClampNeg 2) (im_i (im_setI (im_setI (im_setI M5 67 (Int32.toNatClampNeg 6) x5) 67 (Int32.toNatClampNeg 0) 0) 67 (Int32.toNatClampNeg 1) (im_i (im_setI (im_setI M5 67 (Int32.toNatClampNeg 6) x5) 67 (Int32.toNatClampNeg 0) 0) 38 2)) 38 3)) 38 4)) 67 (Int32.toNatClampNeg 4) (im_i (im_setI (im_setI (im_setI (im_setI (im_setI M5 67 (Int32.toNatClampNeg 6) x5) 67 (Int32.toNatClampNeg 0) 0) 67 (Int32.toNatClampNeg 1) (im_i (im_setI (im_setI M5 67 (Int32.toNatClampNeg 6) x5) 67 (Int32.toNatClampNeg 0) 0) 38 2)) 67 (Int32.toNatClampNeg 2) (im_i (im_setI (im_setI (im_setI M5 67 (Int32.toNatClampNeg 6) x5) 67 (Int32.toNatClampNeg 0) 0) 67 (Int32.toNatClampNeg 1) (im_i (im_setI (im_setI M5 67 (Int32.toNatClampNeg 6) x5) 67 (Int32.toNatClampNeg 0) 0) 38 2)) 38 3)) 67 (Int32.toNatClampNeg 3) (im_i (im_setI (im_setI (im_setI (im_setI M5 67 (Int32.toNatClampNeg 6) x5) 67 (Int32.toNatClampNeg 0) 0) 67 (Int32.toNatClampNeg 1) (im_i (im_setI (im_setI M5 67 (Int32.toNatClampNeg 6) x5) 67 (Int32.toNatClampNeg 0) 0) 38 2)) 67 (Int32.toNatClampNeg 2) (im_i (im_setI (im_setI (im_setI M5 67 (Int32.toNatClampNeg 6) x5) 67 (Int32.toNatClampNeg 0) 0) 67 (Int32.toNatClampNeg 1) (im_i (im_setI (im_setI M5 67 (Int32.toNatClampNeg 6) x5) 67 (Int32.toNatClampNeg 0) 0) 38 2)) 38 3)) 38 4)) 39 1)) 0 12 (im_i (im_setI (im_setI (im_setI (im_setI (im_setI (im_setI M5 67 (Int32.toNatClampNeg 6) x5) 67 (Int32.toNatClampNeg 0) 0) 67 (Int32.toNatClampNeg 1) (im_i (im_setI (im_setI M5 67 (Int32.toNatClampNeg 6) x5) 67 (Int32.toNatClampNeg 0) 0) 38 2)) 67 (Int32.toNatClampNeg 2) (im_i (im_setI (im_setI (im_setI M5 67 (Int32.toNatClampNeg 6) x5) 67 (Int32.toNatClampNeg 0) 0) 67 (Int32.toNatClampNeg 1) (im_i (im_setI (im_setI M5 67 (Int32.toNatClampNeg 6) x5) 67 (Int32.toNatClampNeg 0) 0) 38 2)) 38 3)) 67 (Int32.toNatClampNeg 3) (im_i (im_setI (im_setI (im_setI (im_setI M5 67 (Int32.toNatClampNeg 6) x5) 67 (Int32.toNatClampNeg 0) 0) 67 (Int32.toNatClampNeg 1) (im_i (im_setI (im_setI M5 67 (Int32.toNatClampNeg 6) x5) 67 (Int32.toNatClampNeg 0) 0) 38 2)) 67 (Int32.toNatClampNeg 2) (im_i (im_setI (im_setI (im_setI M5 67 (Int32.toNatClampNeg 6) x5) 67 (Int32.toNatClampNeg 0) 0) 67 (Int32.toNatClampNeg 1) (im_i (im_setI (im_setI M5 67 (Int32.toNatClampNeg 6) x5) 67 (Int32.toNatClampNeg 0) 0) 38 2)) 38 3)) 38 4)) 67 (Int32.toNatClampNeg 4) (im_i (im_setI (im_setI (im_setI (im_setI (im_setI M5 67 (Int32.toNatClampNeg 6) x5) 67 (Int32.toNatClampNeg 0) 0) 67 (Int32.toNatClampNeg 1) (im_i (im_setI (im_setI M5 67 (Int32.toNatClampNeg 6) x5) 67 (Int32.toNatClampNeg 0) 0) 38 2)) 67 (Int32.toNatClampNeg 2) (im_i (im_setI (im_setI (im_setI M5 67 (Int32.toNatClampNeg 6) x5) 67 (Int32.toNatClampNeg 0) 0) 67 (Int32.toNatClampNeg 1) (im_i (im_setI (im_setI M5 67 (Int32.toNatClampNeg 6) x5) 67 (Int32.toNatClampNeg 0) 0) 38 2)) 38 3)) 67 (Int32.toNatClampNeg 3) (im_i (im_setI (im_setI (im_setI (im_setI M5 67 (Int32.toNatClampNeg 6) x5) 67 (Int32.toNatClampNeg 0) 0) 67 (Int32.toNatClampNeg 1) (im_i (im_setI (im_setI M5 67 (Int32.toNatClampNeg 6) x5) 67 (Int32.toNatClampNeg 0) 0) 38 2)) 67 (Int32.toNatClampNeg 2) (im_i (im_setI (im_setI (im_setI M5 67 (Int32.toNatClampNeg 6) x5) 67 (Int32.toNatClampNeg 0) 0) 67 (Int32.toNatClampNeg 1) (im_i (im_setI (im_setI M5 67 (Int32.toNatClampNeg 6) x5) 67 (Int32.toNatClampNeg 0) 0) 38 2)) 38 3)) 38 4)) 39 1)) 39 2)) 0 12), (im_setI (im_setI (im_setI (im_setI (im_setI (im_setI (im_setI M5 67 (Int32.toNatClampNeg 6) x5) 67 (Int32.toNatClampNeg 0) 0) 67 (Int32.toNatClampNeg 1) (im_i (im_setI (im_setI M5 67 (Int32.toNatClampNeg 6) x5) 67 (Int32.toNatClampNeg 0) 0) 38 2)) 67 (Int32.toNatClampNeg 2) (im_i (im_setI (im_setI (im_setI M5 67 (Int32.toNatClampNeg 6) x5) 67 (Int32.toNatClampNeg 0) 0) 67 (Int32.toNatClampNeg 1) (im_i (im_setI (im_setI M5 67 (Int32.toNatClampNeg 6) x5) 67 (Int32.toNatClampNeg 0) 0) 38 2)) 38 3)) 67 (Int32.toNatClampNeg 3) (im_i (im_setI (im_setI (im_setI (im_setI M5 67 (Int32.toNatClampNeg 6) x5) 67 (Int32.toNatClampNeg 0) 0) 67 (Int32.toNatClampNeg 1) (im_i (im_setI (im_setI M5 67 (Int32.toNatClampNeg 6) x5) 67 (Int32.toNatClampNeg 0) 0) 38 2)) 67 (Int32.toNatClampNeg 2) (im_i (im_setI (im_setI (im_setI M5 67 (Int32.toNatClampNeg 6) x5) 67 (Int32.toNatClampNeg 0) 0) 67 (Int32.toNatClampNeg 1) (im_i (im_setI (im_setI M5 67 (Int32.toNatClampNeg 6) x5) 67 (Int32.toNatClampNeg 0) 0) 38 2)) 38 3)) 38 4)) 67 (Int32.toNatClampNeg 4) (im_i (im_setI (im_setI (im_setI (im_setI (im_setI M5 67 (Int32.toNatClampNeg 6) x5) 67 (Int32.toNatClampNeg 0) 0) 67 (Int32.toNatClampNeg 1) (im_i (im_setI (im_setI M5 67 (Int32.toNatClampNeg 6) x5) 67 (Int32.toNatClampNeg 0) 0) 38 2)) 67 (Int32.toNatClampNeg 2) (im_i (im_setI (im_setI (im_setI M5 67 (Int32.toNatClampNeg 6) x5) 67 (Int32.toNatClampNeg 0) 0) 67 (Int32.toNatClampNeg 1) (im_i (im_setI (im_setI M5 67 (Int32.toNatClampNeg 6) x5) 67 (Int32.toNatClampNeg 0) 0) 38 2)) 38 3)) 67 (Int32.toNatClampNeg 3) (im_i (im_setI (im_setI (im_setI (im_setI M5 67 (Int32.toNatClampNeg 6) x5) 67 (Int32.toNatClampNeg 0) 0) 67 (Int32.toNatClampNeg 1) (im_i (im_setI (im_setI M5 67 (Int32.toNatClampNeg 6) x5) 67 (Int32.toNatClampNeg 0) 0) 38 2)) 67 (Int32.toNatClampNeg 2) (im_i (im_setI (im_setI (im_setI M5 67 (Int32.toNatClampNeg 6) x5) 67 (Int32.toNatClampNeg 0) 0) 67 (Int32.toNatClampNeg 1) (im_i (im_setI (im_setI M5 67 (Int32.toNatClampNeg 6) x5) 67 (Int32.toNatClampNeg 0) 0) 38 2)) 38 3)) 38 4)) 39 1)) 0 12 (im_i (im_setI (im_setI (im_setI (im_setI (im_setI (im_setI M5 67 (Int32.toNatClampNeg 6) x5) 67 (Int32.toNatClampNeg 0) 0) 67 (Int32.toNatClampNeg 1) (im_i (im_setI (im_setI M5 67 (Int32.toNatClampNeg 6) x5) 67 (Int32.toNatClampNeg 0) 0) 38 2)) 67 (Int32.toNatClampNeg 2) (im_i (im_setI (im_setI (im_setI M5 67 (Int32.toNatClampNeg 6) x5) 67 (Int32.toNatClampNeg 0) 0) 67 (Int32.toNatClampNeg 1) (im_i (im_setI (im_setI M5 67 (Int32.toNatClampNeg 6) x5) 67 (Int32.toNatClampNeg 0) 0) 38 2)) 38 3)) 67 (Int32.toNatClampNeg 3) (im_i (im_setI (im_setI (im_setI (im_setI M5 67 (Int32.toNatClampNeg 6) x5) 67 (Int32.toNatClampNeg 0) 0) 67 (Int32.toNatClampNeg 1) (im_i (im_setI (im_setI M5 67 (Int32.toNatClampNeg 6) x5) 67 (Int32.toNatClampNeg 0) 0) 38 2)) 67 (Int32.toNatClampNeg 2) (im_i (im_setI (im_setI (im_setI M5 67 (Int32.toNatClampNeg 6) x5) 67 (Int32.toNatClampNeg 0) 0) 67 (Int32.toNatClampNeg 1) (im_i (im_setI (im_setI M5 67 (Int32.toNatClampNeg 6) x5) 67 (Int32.toNatClampNeg 0) 0) 38 2)) 38 3)) 38 4)) 67 (Int32.toNatClampNeg 4) (im_i (im_setI (im_setI (im_setI (im_setI (im_setI M5 67 (Int32.toNatClampNeg 6) x5) 67 (Int32.toNatClampNeg 0) 0) 67 (Int32.toNatClampNeg 1) (im_i (im_setI (im_setI M5 67 (Int32.toNatClampNeg 6) x5) 67 (Int32.toNatClampNeg 0) 0) 38 2)) 67 (Int32.toNatClampNeg 2) (im_i (im_setI (im_setI (im_setI M5 67 (Int32.toNatClampNeg 6) x5) 67 (Int32.toNatClampNeg 0) 0) 67 (Int32.toNatClampNeg 1) (im_i (im_setI (im_setI M5 67 (Int32.toNatClampNeg 6) x5) 67 (Int32.toNatClampNeg 0) 0) 38 2)) 38 3)) 67 (Int32.toNatClampNeg 3) (im_i (im_setI (im_setI (im_setI (im_setI M5 67 (Int32.toNatClampNeg 6) x5) 67 (Int32.toNatClampNeg 0) 0) 67 (Int32.toNatClampNeg 1) (im_i (im_setI (im_setI M5 67 (Int32.toNatClampNeg 6) x5) 67 (Int32.toNatClampNeg 0) 0) 38 2)) 67 (Int32.toNatClampNeg 2) (im_i (im_setI (im_setI (im_setI M5 67 (Int32.toNatClampNeg 6) x5) 67 (Int32.toNatClampNeg 0) 0) 67 (Int32.toNatClampNeg 1) (im_i (im_setI (im_setI M5 67 (Int32.toNatClampNeg 6) x5) 67 (Int32.toNatClampNeg 0) 0) 38 2)) 38 3)) 38 4)) 39 1)) 39 2))) else some ((-1), (im_setI M5 67 (Int32.toNatClampNeg 6) x5))
theorem dec_bad {x5 : Int32} {M5 : im_M} (h : ¬ x5 = 0) : f_H_decodeEnd x5 M5 = some (-1, im_setI M5 67 6 x5) := by
  have c6 : Int32.toNatClampNeg 6 = 6 := by decide
  unfold f_H_decodeEnd
  rw [gd_pos (by decide), if_neg h, c6]
theorem dec_end {x5 : Int32} {M5 : im_M} (h : x5 = 0) : ∃ A, f_H_decodeEnd x5 M5 = some (im_i M5 39 2, A) ∧ im_i A 67 0 = 0 ∧ im_i A 67 1 = im_i M5 38 2 ∧ im_i A 67 2 = im_i M5 38 3 ∧ im_i A 67 3 = im_i M5 38 4 ∧ im_i A 67 4 = im_i M5 39 1 ∧ im_i A 67 5 = im_i M5 67 5 ∧ im_i A 67 6 = x5 ∧ im_i A 0 12 = im_i M5 39 2 ∧ im_i A 68 = im_i M5 68 := by
  have c0 : Int32.toNatClampNeg 0 = 0 := by decide
  have c1 : Int32.toNatClampNeg 1 = 1 := by decide
  have c2 : Int32.toNatClampNeg 2 = 2 := by decide
  have c3 : Int32.toNatClampNeg 3 = 3 := by decide
  have c4 : Int32.toNatClampNeg 4 = 4 := by decide
  have c6 : Int32.toNatClampNeg 6 = 6 := by decide
  unfold f_H_decodeEnd
  rw [gd_pos (by decide), if_pos h, gd_pos (by decide), gd_pos (by decide), gd_pos (by decide), gd_pos (by decide), gd_pos (by decide), c0, c1, c2, c3, c4, c6]
  obtain ⟨A1, h1⟩ : ∃ A1, A1 = im_setI M5 67 6 x5 := ⟨_, rfl⟩
  rw [← h1]
  obtain ⟨A2, h2⟩ : ∃ A2, A2 = im_setI A1 67 0 0 := ⟨_, rfl⟩
  rw [← h2]
  obtain ⟨A3, h3⟩ : ∃ A3, A3 = im_setI A2 67 1 (im_i A2 38 2) := ⟨_, rfl⟩
  rw [← h3]
  obtain ⟨A4, h4⟩ : ∃ A4, A4 = im_setI A3 67 2 (im_i A3 38 3) := ⟨_, rfl⟩
  rw [← h4]
  obtain ⟨A5, h5⟩ : ∃ A5, A5 = im_setI A4 67 3 (im_i A4 38 4) := ⟨_, rfl⟩
  rw [← h5]
  obtain ⟨A6, h6⟩ : ∃ A6, A6 = im_setI A5 67 4 (im_i A5 39 1) := ⟨_, rfl⟩
  rw [← h6]
  obtain ⟨A7, h7⟩ : ∃ A7, A7 = im_setI A6 0 12 (im_i A6 39 2) := ⟨_, rfl⟩
  rw [← h7]
  have f2 : fr (2 ^ 67) [] M5 A2 := by rw [h2, h1]; exact fr_I (by decide) (fr_I (by decide) fr_refl)
  have f3 : fr (2 ^ 67) [] M5 A3 := by rw [h3]; exact fr_I (by decide) f2
  have f4 : fr (2 ^ 67) [] M5 A4 := by rw [h4]; exact fr_I (by decide) f3
  have f5 : fr (2 ^ 67) [] M5 A5 := by rw [h5]; exact fr_I (by decide) f4
  have f6 : fr (2 ^ 67) [] M5 A6 := by rw [h6]; exact fr_I (by decide) f5
  have e12 : im_i A7 0 12 = im_i M5 39 2 := by rw [h7, hit, f6.1 39 2 (by decide) (by simp)]
  have a7 : ∀ j, im_i A7 67 j = im_i A6 67 j := fun j => by rw [h7, sk1 (by omega)]
  refine ⟨A7, by rw [e12], ?_, ?_, ?_, ?_, ?_, ?_, ?_, e12, ?_⟩
  · rw [a7, h6, sk1 (by omega), h5, sk1 (by omega), h4, sk1 (by omega), h3, sk1 (by omega), h2, hit]
  · rw [a7, h6, sk1 (by omega), h5, sk1 (by omega), h4, sk1 (by omega), h3, hit, f2.1 38 2 (by decide) (by simp)]
  · rw [a7, h6, sk1 (by omega), h5, sk1 (by omega), h4, hit, f3.1 38 3 (by decide) (by simp)]
  · rw [a7, h6, sk1 (by omega), h5, hit, f4.1 38 4 (by decide) (by simp)]
  · rw [a7, h6, hit, f5.1 39 1 (by decide) (by simp)]
  · rw [a7, h6, sk1 (by omega), h5, sk1 (by omega), h4, sk1 (by omega), h3, sk1 (by omega), h2, sk1 (by omega), h1, sk1 (by omega)]
  · rw [a7, h6, sk1 (by omega), h5, sk1 (by omega), h4, sk1 (by omega), h3, sk1 (by omega), h2, sk1 (by omega), h1, hit]
  · rw [h7, up_o (by decide), fr_c f6 68 (by decide) (by simp)]
theorem two_decode {w : Bool} {M N : im_M} {W H k n X Y m v q e : Nat} {D : Nat → Nat → Bool} (dh : DH w M W H D) (pr : PR N W H D) (h59 : im_i M 59 0 = nI n) (h10 : im_i N 130 10 = nI n) (hn : n ≤ 300) (hk : k < n) (hm : 1 ≤ m ∧ m ≤ 16) (hv : 1 ≤ v ∧ v ≤ 40) (hq : q < 4) (hX : X + m * (17 + 4 * v) ≤ W) (hY : Y + m * (17 + 4 * v) ≤ H) (e62 : im_l M 62 k = pkey X Y m v q) (e63 : im_i M 63 k = nI e) (d0 : im_i N 135 (6 * k) = nI X) (d1 : im_i N 135 (6 * k + 1) = nI Y) (d2 : im_i N 135 (6 * k + 2) = nI m) (d3 : im_i N 135 (6 * k + 3) = nI v) (d4 : im_i N 135 (6 * k + 4) = nI q) (qp : PWL M) (qt : TBR N) (b8 : B8 (im_i N 120)) : ∃ (z : Int32) (rc R : im_M), f_H_decode w (nI k) M = some (z, rc) ∧ f_M_decode (nI k) N = some (z, R) ∧ im_i R 69 0 = 0 ∧ B8 (im_i R 120) ∧ PR R W H D ∧ RG (im_i rc 0 12) (im_i R 69 12) (im_i R 69 10) (im_i R 108 31) (im_i R 96 15) (im_i R 108 32) (im_i rc 67) (im_i rc 68) (im_i R 137) (im_i R 129) := by
  have hW := dh.1
  have mn : 17 + 4 * v ≤ m * (17 + 4 * v) := by
    have := Nat.mul_le_mul_right (17 + 4 * v) hm.1
    omega
  have k0 : ¬ nI k < 0 := by rw [show (0 : Int32) = nI 0 from rfl, nIlt (by omega) (by omega)]; omega
  have kn : nI k < im_i M 59 0 := by rw [h59, nIlt (by omega) (by omega)]; exact hk
  -- the class, up to what it understands
  obtain ⟨M1, a1, o1, o2, o3, f1⟩ := s_forget (M := M)
  have pt : f_HFinder_part (nI k) 3 M1 = some (nI v) := (e_part (M := M1) (k := k) (x := X) (y := Y) (m := m) (v := v) (q := q) (e := e) (by omega) (by omega) (by omega) (by omega) (by omega) hq (by rw [f1.2 62 (by decide)]; exact e62) (by rw [f1.1 63 k (by decide) (by simp)]; exact e63)).2.2.2.1
  obtain ⟨M3, a3, s0, z0, g1, g2, g3, g4, g5⟩ := s_beginG (M := M1) hv
  have f3 : fr (2 ^ 54 ||| 2 ^ 55) [(38, 1), (38, 6)] M1 M3 := fr_tr (fr_mono (by decide) (by simp) g5) (fr_F (by decide) (fr_F (by decide) fr_refl))
  obtain ⟨M4, a4, c4, f4⟩ := s_fillC (k := k) (e := e) (DH_fr f3 (by decide +kernel) (DH_fr f1 (by decide +kernel) dh)) (by omega) hm hv hq hX hY (by rw [f3.2 62 (by decide), f1.2 62 (by decide)]; exact e62) (by rw [f3.1 63 k (by decide) (by simp), f1.1 63 k (by decide) (by simp)]; exact e63) g1
  have c0 : im_i M4 38 6 = nI v := (f4.1 38 6 (by decide) (by simp)).trans g2
  have c1 : im_i M4 38 1 = nI (17 + 4 * v) := (f4.1 38 1 (by decide) (by simp)).trans g1
  have c2 : im_i M4 55 = (frmG (17 + 4 * v) v (fmW 8) s0).2 := (fr_c f4 55 (by decide) (by simp)).trans g4
  have p4 : PWL M4 := PWL_fr f4 (by decide +kernel) (PWL_fr f3 (by decide +kernel) (PWL_fr f1 (by decide +kernel) qp))
  -- the reference, up to what it reads
  have l0 : f_MPlaceRows_place (nI k) 0 N = some (nI X, im_setI N 130 0 0) := by
    have : f_MPlaceRows_place (nI k) 0 N = some (im_i N 135 (6 * k + 0), im_setI N 130 0 0) := s_placeM (t := 0) h10 hn hk (by omega)
    rw [this, Nat.add_zero, d0]
  have x0 : (0 : Int32) ≤ nI X := by rw [show (0 : Int32) = nI 0 from rfl, nIl (by omega) (by omega)]; omega
  obtain ⟨N2, hN2⟩ : ∃ N2, N2 = im_setI (im_setI (im_setI (im_setI N 130 0 0) 69 0 0) 69 10 (-1)) 69 12 0 := ⟨_, rfl⟩
  have fN2 : fr 0 [(130, 0), (69, 0), (69, 10), (69, 12)] N N2 := by
    rw [hN2]
    exact fr_F (by decide) (fr_F (by decide) (fr_F (by decide) (fr_F (by decide) fr_refl)))
  have l3 : f_MPlaceRows_place (nI k) 3 N2 = some (nI v, im_setI N2 130 0 0) := by
    have : f_MPlaceRows_place (nI k) 3 N2 = some (im_i N2 135 (6 * k + 3), im_setI N2 130 0 0) := s_placeM (t := 3) ((fN2.1 130 10 (by decide) (by decide)).trans h10) hn hk (by omega)
    rw [this, fN2.1 135 _ (by decide) (by simp), d3]
  have t2 : im_i N2 69 0 = 0 ∧ im_i N2 69 10 = -1 ∧ im_i N2 69 12 = 0 := by
    refine ⟨?_, ?_, ?_⟩
    · rw [hN2, sk1 (by omega), sk1 (by omega)]; exact hit
    · rw [hN2, sk1 (by omega)]; exact hit
    · rw [hN2]; exact hit
  obtain ⟨⟨x4, N4⟩, b4, u0, u1, u2, u3, ⟨s1, zs, u4⟩, u5⟩ := s_blank (M := im_setI N2 130 0 0) hv
  replace u0 : x4 = nI (17 + 4 * v) := u0
  subst u0
  replace u1 : im_i N4 108 7 = nI v := u1
  replace u2 : im_i N4 108 8 = nI (17 + 4 * v) := u2
  replace u3 : ∀ j, j < 31329 → im_i N4 112 j = 0 := u3
  replace u4 : im_i N4 113 = (frmG (17 + 4 * v) v (fmW 0) s1).2 := u4
  replace u5 : fr (2 ^ 112 ||| 2 ^ 113) [(108, 0), (108, 7), (108, 8), (108, 9)] (im_setI N2 130 0 0) N4 := u5
  have fN4 : fr (2 ^ 112 ||| 2 ^ 113) [(108, 0), (108, 7), (108, 8), (108, 9), (130, 0)] N2 N4 := fr_tr (fr_mono (by decide) (by simp) u5) (fr_F (by decide) fr_refl)
  have c135 : ∀ j, im_i N4 135 j = im_i N 135 j := fun j => (fN4.1 135 j (by decide) (by simp)).trans (fN2.1 135 j (by decide) (by simp))
  obtain ⟨N19, b19, v1, v2, v3⟩ := s_fillR (M := N4) (PR_fr fN4 (by decide +kernel) (PR_fr fN2 (by decide +kernel) pr)) hk hn ((fN4.1 130 10 (by decide) (by decide)).trans ((fN2.1 130 10 (by decide) (by decide)).trans h10)) ((c135 _).trans d0) ((c135 _).trans d1) ((c135 _).trans d2) ((c135 _).trans d3) ((c135 _).trans d4) hm hv hq hX hY u1 u2 (fun x y hx hy => u3 _ (by omega))
  obtain ⟨N20, hN20⟩ : ∃ N20, N20 = im_setI (im_setI N19 108 0 0) 108 4 0 := ⟨_, rfl⟩
  have f20 : fr 0 [(108, 0), (108, 4)] N19 N20 := by
    rw [hN20]
    exact fr_F (by decide) (fr_F (by decide) fr_refl)
  have w20 : f_MSquareRows_wipe N19 = some (im_i (im_setI N19 108 0 0) 108 4, N20) := by
    rw [hN20]
    rfl
  -- both
  obtain ⟨f, C, R, z, y1, y2, y3, y4, y5, y6⟩ := two_understand (Mc := M4) (Mr := N20) hv z0 zs c0 c1 c2 c4 p4 ((f20.1 108 7 (by decide) (by decide)).trans ((v3.1 108 7 (by decide) (by decide)).trans u1)) ((f20.1 108 8 (by decide) (by decide)).trans ((v3.1 108 8 (by decide) (by decide)).trans u2)) ((fr_c f20 113 (by decide) (by decide)).trans ((fr_c v3 113 (by decide) (by decide)).trans u4)) (fun x y hx hy => (f20.1 112 _ (by decide) (by simp)).trans (v1 x y hx hy)) (TBR_fr f20 (by decide +kernel) (TBR_fr v3 (by decide +kernel) (TBR_fr fN4 (by decide +kernel) (TBR_fr fN2 (by decide +kernel) qt)))) (by rw [fr_c f20 120 (by decide) (by decide), fr_c v3 120 (by decide) (by decide), fr_c fN4 120 (by decide) (by decide), fr_c fN2 120 (by decide) (by decide)]; exact b8)
  have fC := f_HGrid_understand_fr y1
  have fR := f_MSquareRows_read_fr y2
  replace fC : fr 295183671193092751360 [(38, 2), (38, 3), (38, 4), (39, 1), (39, 2), (39, 5), (39, 6), (43, 10), (43, 11), (43, 12), (43, 13)] M4 C := fC
  replace fR : fr 1190331458670679966426802018225542397952 [(108, 0), (108, 4), (108, 28), (108, 29), (108, 30), (108, 31), (108, 32)] N20 R := fR
  have k67 : ∀ j, im_i C 67 j = im_i M1 67 j := fun j => (fC.1 67 j (by decide) (by simp)).trans ((f4.1 67 j (by decide) (by simp)).trans (f3.1 67 j (by decide) (by simp)))
  have k12 : im_i C 0 12 = 0 := (fC.1 0 12 (by decide) (by decide)).trans ((f4.1 0 12 (by decide) (by simp)).trans ((f3.1 0 12 (by decide) (by decide)).trans o3))
  have r69 : ∀ j, im_i R 69 j = im_i N2 69 j := fun j => (fR.1 69 j (by decide) (by simp)).trans ((f20.1 69 j (by decide) (by simp)).trans ((v3.1 69 j (by decide) (by simp)).trans (fN4.1 69 j (by decide) (by simp))))
  have pR : PR R W H D := PR_fr fR (by decide +kernel) (PR_fr f20 (by decide +kernel) v2)
  have cls : f_H_decode w (nI k) M = bd2 (f_HGrid_understand M4) fun (x5 : Int32) (M5 : im_M) => f_H_decodeEnd x5 M5 := by
    unfold f_H_decode
    rw [if_neg k0, if_pos kn, a1, bd1_s, pt, bd1_s, a3, bd1_s, a4, bd1_s]
    rfl
  have ref : f_M_decode (nI k) N = if z < 0 then some (z, R) else bd1 (lp (uc2 (f_M_decode_L144 z)) (0, (im_setI (im_setI R 69 10 0) 69 12 z))) fun (M27 : im_M) => some (z, M27) := by
    unfold f_M_decode
    rw [l0, bd2_s, if_pos x0, if_pos (show im_i (im_setI (im_setI N 130 0 0) 69 0 0) 69 0 ≤ 0 by rw [hit]; decide), ← hN2, l3, bd2_s, b4, bd2_s, b19, bd1_s, w20, bd2_s, y2, bd2_s]
  rw [y1, bd2_s] at cls
  rcases y6 with ⟨rfl, n', n1, n2, n3, n4, n5, n6, n7, n8, n9, n10⟩ | ⟨fz, n1⟩
  · subst n3
    have zz : ¬ nI n' < 0 := by rw [show (0 : Int32) = nI 0 from rfl, nIlt (by omega) (by omega)]; omega
    rw [if_neg zz] at ref
    obtain ⟨S, eS, h1, h2⟩ := s_copyB (M := im_setI (im_setI R 69 10 0) 69 12 (nI n')) (n := n') n1 (by rw [sk1 (by omega), sk1 (by omega)]; exact n4)
    rw [eS, bd1_s] at ref
    obtain ⟨A, hA, q0, q1, q2, q3, q4, q5, q6, q12, q68⟩ := dec_end (x5 := nI 0) (M5 := C) rfl
    rw [hA, n2] at cls
    refine ⟨nI n', A, S, cls, ref, ?_, ?_, ?_, ⟨n', n1, by rw [q12, n2], ?_, fun j hj => ?_⟩, ?_, ?_, Or.inr (Or.inl ⟨?_, ?_, ?_, ?_, ?_, ?_, ?_⟩)⟩
    · rw [h2.1 69 0 (by decide) (by decide), sk1 (by omega), sk1 (by omega), r69]
      exact t2.1
    · rw [fr_c h2 120 (by decide) (by decide), up_o (by decide), up_o (by decide)]
      exact y4
    · exact PR_fr h2 (by decide +kernel) (PR_fr (show fr 0 [(69, 10), (69, 12)] R (im_setI (im_setI R 69 10 0) 69 12 (nI n')) from fr_F (by decide) (fr_F (by decide) fr_refl)) (by decide +kernel) pR)
    · rw [h2.1 69 12 (by decide) (by decide)]
      exact hit
    · rw [h1 j hj, sk1 (by omega), sk1 (by omega), q68, n5 j hj]
    · rw [q0, h2.1 69 10 (by decide) (by decide), sk1 (by omega)]
      exact hit.symm
    · rw [q6, h2.1 108 31 (by decide) (by decide), sk1 (by omega), sk1 (by omega)]
      exact y3.symm
    · rw [h2.1 69 10 (by decide) (by decide), sk1 (by omega)]
      exact hit
    · rw [h2.1 108 32 (by decide) (by decide), sk1 (by omega), sk1 (by omega)]
      exact n10
    · rw [q1, h2.1 129 0 (by decide) (by simp), sk1 (by omega), sk1 (by omega)]
      exact n6.symm
    · rw [q2, h2.1 129 1 (by decide) (by simp), sk1 (by omega), sk1 (by omega)]
      exact n7.symm
    · rw [q3, h2.1 129 2 (by decide) (by simp), sk1 (by omega), sk1 (by omega)]
      exact n8.symm
    · rw [q4, h2.1 129 3 (by decide) (by simp), sk1 (by omega), sk1 (by omega)]
      exact n9.symm
    · rw [q5, k67]
      exact o1 5 (by omega)
  · subst n1
    rw [if_pos (by decide)] at ref
    have fnz : ¬ nI f = 0 := by rw [show (0 : Int32) = nI 0 from rfl, nIe (by omega) (by omega)]; exact fz
    rw [dec_bad fnz] at cls
    have s67 : ∀ j, j < 6 → im_i (im_setI C 67 6 (nI f)) 67 j = -1 := fun j hj => by
      rw [sk1 (by omega), k67]
      exact o1 j hj
    refine ⟨-1, im_setI C 67 6 (nI f), R, cls, ref, ?_, y4, pR, ⟨0, by omega, ?_, ?_, fun j hj => absurd hj (Nat.not_lt_zero _)⟩, ?_, ?_, Or.inl ⟨?_, s67 1 (by omega), s67 2 (by omega), s67 3 (by omega), s67 4 (by omega), s67 5 (by omega)⟩⟩
    · rw [r69]; exact t2.1
    · rw [sk1 (by omega), k12]; rfl
    · rw [r69]; exact t2.2.2
    · rw [s67 0 (by omega), r69]; exact t2.2.1.symm
    · rw [hit]; exact y3.symm
    · rw [r69]; exact t2.2.1
theorem c_decode {w : Bool} {M : im_M} {p0 : Int32} (q : RL w M) (h : ¬ p0 < 0 ∧ p0 < im_i M 59 0) : ed (f_H_decode w p0 M) (fun r => ed (f_M_decode p0 (im_setL r.2 138 0 r.1.toInt64)) (ans w 0)) := by
  obtain ⟨W, H, D, rd, n, hn, e1, e2, e3⟩ := q.2.2.2.2.2.2.1
  obtain ⟨k, rfl, hk⟩ := iz3' h.1 (by rw [e1] at h; exact h.2) (by omega)
  obtain ⟨X, Y, m, v, qd, e, m16, m1, v40, v1, q4, e500, hX, hY, k62, k63, d0, d1, d2, d3, d4, d5⟩ := e3 k hk
  have qc := q.2.2.2.2.2.2.2.2.2
  obtain ⟨w1, ⟨w2, w3, w4, w5, w6, w7⟩, w8, w9, w10, w11⟩ := rd
  have dh : DH w M W H D := ⟨w1, ⟨w2, w3⟩, w8, w9⟩
  have pr : PR M W H D := ⟨w1, ⟨w6, w7⟩, w11⟩
  have two : ∀ N : im_M, fr (442793652579788128256 ||| 2 ^ 138) [(0, 12), (38, 1), (38, 2), (38, 3), (38, 4), (38, 6), (39, 1), (39, 2), (39, 5), (39, 6), (43, 10), (43, 11), (43, 12), (43, 13)] M N → ∃ (z : Int32) (rc R : im_M), f_H_decode w (nI k) M = some (z, rc) ∧ f_M_decode (nI k) N = some (z, R) ∧ im_i R 69 0 = 0 ∧ B8 (im_i R 120) ∧ PR R W H D ∧ RG (im_i rc 0 12) (im_i R 69 12) (im_i R 69 10) (im_i R 108 31) (im_i R 96 15) (im_i R 108 32) (im_i rc 67) (im_i rc 68) (im_i R 137) (im_i R 129) := fun N fN => by
    have c135 : ∀ j, im_i N 135 j = im_i M 135 j := fun j => fN.1 135 j (by decide) (by simp)
    exact two_decode (e := e) dh (PR_fr fN (by decide +kernel) pr) e1 ((fN.1 130 10 (by decide) (by decide)).trans e2) hn hk ⟨m1, m16⟩ ⟨v1, v40⟩ q4 hX hY k62 k63 ((c135 _).trans d0) ((c135 _).trans d1) ((c135 _).trans d2) ((c135 _).trans d3) ((c135 _).trans d4) ⟨qc.1, qc.2.1⟩ (TBR_fr fN (by decide +kernel) ⟨qc.2.2.2.2.2.1, qc.2.2.2.2.2.2.1⟩) (by rw [fr_c fN 120 (by decide) (by decide)]; exact q.2.2.2.2.2.2.2.1.2)
  obtain ⟨z, rc, _, hc, _⟩ := two M fr_refl
  refine ⟨(z, rc), hc, ?_⟩
  show ed (f_M_decode (nI k) (im_setL rc 138 0 z.toInt64)) (ans w 0)
  have fc := f_H_decode_fr hc
  replace fc : fr 442793652579788128256 [(0, 12), (38, 1), (38, 2), (38, 3), (38, 4), (38, 6), (39, 1), (39, 2), (39, 5), (39, 6), (43, 10), (43, 11), (43, 12), (43, 13)] M rc := fc
  have fN : fr (442793652579788128256 ||| 2 ^ 138) [(0, 12), (38, 1), (38, 2), (38, 3), (38, 4), (38, 6), (39, 1), (39, 2), (39, 5), (39, 6), (43, 10), (43, 11), (43, 12), (43, 13)] M (im_setL rc 138 0 z.toInt64) := fr_L (by decide) (fr_mono (by decide) (by simp) fc)
  obtain ⟨z', rc', R, hc', hr, r69, r120, rP, rG⟩ := two _ fN
  rw [hc] at hc'
  injection hc' with hc'
  injection hc' with ez er
  subst ez er
  have fr9 := f_M_decode_fr hr
  replace fr9 : fr 178137172642152398037036854943737670795264 [(69, 0), (69, 10), (69, 12), (108, 0), (108, 4), (108, 7), (108, 8), (108, 9), (108, 28), (108, 29), (108, 30), (108, 31), (108, 32), (130, 0)] (im_setL rc 138 0 z.toInt64) R := fr9
  have fAll : fr (442793652579788128256 ||| 2 ^ 138 ||| 178137172642152398037036854943737670795264) ([(0, 12), (38, 1), (38, 2), (38, 3), (38, 4), (38, 6), (39, 1), (39, 2), (39, 5), (39, 6), (43, 10), (43, 11), (43, 12), (43, 13)] ++ [(69, 0), (69, 10), (69, 12), (108, 0), (108, 4), (108, 7), (108, 8), (108, 9), (108, 28), (108, 29), (108, 30), (108, 31), (108, 32), (130, 0)]) M R := fr_tr (fr_mono (by decide) (by decide) fr9) (fr_mono (by decide) (by decide) fN)
  refine ⟨(z, R), hr, r69, fun _ => ?_, RL_DWG fAll ⟨W, H, D, ⟨w1, ⟨?_, ?_, ?_, ?_, rP.2.1.1, rP.2.1.2⟩, w8, ?_, ?_, rP.2.2⟩, ?_⟩ ⟨?_, r120⟩ ?_ q⟩
  · show im_l R 138 0 = z.toInt64
    rw [fr9.2 138 (by decide), ml_L, if_pos rfl, if_pos rfl]
  · exact (fAll.1 28 0 (by decide) (by decide)).trans w2
  · exact (fAll.1 28 1 (by decide) (by decide)).trans w3
  · exact (fAll.1 89 1 (by decide) (by decide)).trans w4
  · exact (fAll.1 89 2 (by decide) (by decide)).trans w5
  · have hsw : im_l R (sw w) = im_l M (sw w) := by
      cases w
      · exact fAll.2 29 (by decide)
      · exact fAll.2 30 (by decide)
    rw [hsw]
    exact w9
  · rw [fr_c fAll 90 (by decide) (by decide)]
    exact w10
  · rw [fAll.1 59 0 (by decide) (by decide), fAll.1 130 10 (by decide) (by decide), fAll.2 62 (by decide), fr_c fAll 63 (by decide) (by decide), fr_c fAll 135 (by decide) (by decide)]
    exact ⟨n, hn, e1, e2, e3⟩
  · rw [fAll.1 0 9 (by decide) (by decide), fAll.1 69 9 (by decide) (by decide), fr_c fAll 66 (by decide) (by decide), fr_c fAll 136 (by decide) (by decide)]
    exact q.2.2.2.2.2.2.2.1.1
  · show RG (im_i R 0 12) (im_i R 69 12) (im_i R 69 10) (im_i R 108 31) (im_i R 96 15) (im_i R 108 32) (im_i R 67) (im_i R 68) (im_i R 137) (im_i R 129)
    rw [fr9.1 0 12 (by decide) (by decide), fr_c fr9 67 (by decide) (by decide), fr_c fr9 68 (by decide) (by decide)]
    exact rG
theorem n_decode {w : Bool} {M : im_M} {p0 : Int32} (q : RL w M) (h : ¬ (¬ p0 < 0 ∧ p0 < im_i M 59 0)) : ed (f_M_decode p0 (im_noX M)) (ans w 1) := by
  obtain ⟨W, H, D, rd, n, hn, e1, e2, e3⟩ := q.2.2.2.2.2.2.1
  have pl : f_MPlaceRows_place p0 0 (im_noX M) = some (-1, im_setI (im_noX M) 130 0 0) := by
    unfold f_MPlaceRows_place
    simp only [jn0]
    rw [if_neg (show ¬ (0 : Int32) < 0 by decide), if_pos (show (0 : Int32) ≤ 5 by decide), if_pos (show im_i (im_setI (im_noX M) 130 0 0) 130 0 ≤ 0 by rw [hit]; decide), sk1 (by omega)]
    by_cases c : p0 < 0
    · rw [if_pos c]
    · rw [if_neg c, if_neg (fun z => h ⟨c, ?_⟩)]
      rw [e1, ← e2]
      exact z
  unfold f_M_decode
  rw [pl, bd2_s, if_neg (show ¬ (0 : Int32) ≤ -1 by decide), if_neg (show ¬ im_i (im_setI (im_setI (im_noX M) 130 0 0) 69 0 1) 69 0 ≤ 0 by rw [hit]; decide)]
  exact ed_mk ⟨hit, fun k => absurd k (by decide), RL_0 (fr0_69 (show fr0 M (im_setI (im_noX M) 130 0 0) from fr_F (by decide) fr0_X)) q⟩
theorem wr_decode {L : Nat} {xs : Nat → Int32} {dep : Nat} {w : Bool} {M : im_M} {p0 : Int32} {K : Bool → Int32 → im_M → Prop} (hM : lw_S w M) (h : ed (f_H_decode w p0 M) (fun r => K w 0 (im_setL r.2 138 0 r.1.toInt64))) : lw_W L xs dep JW_decode JW_decode_h [.ref 0, .int p0, .ref 138] M K := by
  obtain ⟨⟨x, M1⟩, e, hK⟩ := h
  have q := f_H_decode_ok (L := L) (xs := xs) (dep := dep + 20) hM (Q := fun r => r = (x, M1)) ⟨_, e, rfl⟩
  have hM1 : lw_S w M1 := by
    obtain ⟨v, M2, _, _, hs, hr⟩ := ia_S q
    cases hr
    exact hs
  refine ⟨0, _, 0, w, lw_sL hM1, by decide, W_decode (dep := dep + 28) hM hM1 (ia_to q ?_), hK⟩
  rintro v M2 ⟨z, rfl, _, hr⟩
  cases hr
  exact ⟨rfl, rfl⟩
theorem wt_decode_1 {L : Nat} {xs : Nat → Int32} {dep : Nat} {w : Bool} {M : im_M} {p0 : Int32} {K : Bool → Int32 → im_M → Prop} (hM : lw_S w M) (h : it (tb_G L xs) tb_X (dep + 28) J_H_decode (fun E M1 => E = 1 ∧ M1 = im_noX M) (0, lv_args 0 [.ref 0, .int p0], [], M)) (hK : K w 1 (im_noX M)) : lw_W L xs dep JW_decode JW_decode_h [.ref 0, .int p0, .ref 138] M K := ⟨1, im_noX M, 1, w, hM, by decide, W_decode_1 (dep := dep + 28) hM h, hK⟩
theorem x_19 : owed 19 := by
  intro L xs dep i w M P hL hi hM q hk hn hn0
  refine law_19 hL hi hM hk ?_ hn
  by_cases h : ¬ xs (i + 1) < 0 ∧ xs (i + 1) < im_i M 59 0
  · exact wr_decode hM (c_decode q h)
  · exact wt_decode_1 hM (H_decode_1 (dep := dep + 23) h hM) (n_decode q h)
