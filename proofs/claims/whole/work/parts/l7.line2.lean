/-! LINES DRAWN -/
theorem liB_y {X Y dx dy t : Int} {x y : Nat} (h : liB X Y dx dy t x y = true) (ht : 0 ≤ t) {lo hi : Int} (l1 : lo ≤ 0) (l2 : lo ≤ dy) (l3 : 0 ≤ hi) (l4 : dy ≤ hi) : lo - t ≤ (y : Int) - Y ∧ (y : Int) - Y ≤ hi + t := NE_y (ne_of h) ht l1 l2 l3 l4
theorem s_drawLine {w : Bool} {M : im_M} {W H q : Nat} {D : Nat → Nat → Bool} {wy : Int32} {X Y dx dy t : Int} (h : CDS w M M W H D (fun _ _ => false) wy) (hp : PN M X Y q) (h3 : -8192 ≤ dx ∧ dx ≤ 8192) (h4 : -8192 ≤ dy ∧ dy ≤ 8192) (h5 : 1 ≤ t ∧ t ≤ 200) : ed (f_HPen_drawLine w (iZ dx) (iZ dy) (iZ t) M) (fun R => CDS w M R W H D (liB X Y dx dy t) wy) := by
  have n1 : (1 : Int32) = iZ 1 := rfl
  have hH := h.1.1
  have eH : im_i M 28 1 = iZ (H : Int) := by rw [h.1.2.1.2, iZ_nI]
  have p6 := hp.2.1
  have Yb := hp.2.2.2.2.2.2
  obtain ⟨lo, hlo⟩ : ∃ lo : Int, lo = if dy < 0 then dy else 0 := ⟨_, rfl⟩
  obtain ⟨hi, hhi⟩ : ∃ hi : Int, hi = if 0 < dy then dy else 0 := ⟨_, rfl⟩
  have lob : (dy < 0 ∧ lo = dy) ∨ (0 ≤ dy ∧ lo = 0) := by rw [hlo]; split <;> omega
  have hib : (0 < dy ∧ hi = dy) ∨ (dy ≤ 0 ∧ hi = 0) := by rw [hhi]; split <;> omega
  obtain ⟨top, htop⟩ : ∃ top : Int, top = if lo - t < -Y then -Y else lo - t := ⟨_, rfl⟩
  obtain ⟨bot, hbot⟩ : ∃ bot : Int, bot = if (H : Int) - 1 - Y < hi + t then (H : Int) - 1 - Y else hi + t := ⟨_, rfl⟩
  have tb : (lo - t < -Y ∧ top = -Y) ∨ (-Y ≤ lo - t ∧ top = lo - t) := by rw [htop]; split <;> omega
  have bb : ((H : Int) - 1 - Y < hi + t ∧ bot = (H : Int) - 1 - Y) ∨ (hi + t ≤ (H : Int) - 1 - Y ∧ bot = hi + t) := by rw [hbot]; split <;> omega
  have m1 : f_Math_min 0 (iZ dy) M = some (iZ lo) := by rw [hlo]; exact m_min (a := 0) (by omega) (by omega)
  have m2 : f_Math_max 0 (iZ dy) M = some (iZ hi) := by rw [hhi]; exact m_max (a := 0) (by omega) (by omega)
  unfold f_HPen_drawLine
  rw [m1, bd1_s, p6, iZ_neg, iZ_sub, m_max (by omega) (by omega), ← htop, bd1_s, m2, bd1_s, eH, n1, iZ_sub, iZ_sub, iZ_add, m_min (by omega) (by omega), ← hbot, bd1_s]
  clear htop hbot hlo hhi m1 m2
  apply bd1_mk
  refine ed_mono (lp_inv (fun k (s : Int32 × im_M) => ∃ row : Int, bot + 1 - row ≤ (k : Int) ∧ top ≤ row ∧ row ≤ 9000 ∧ s.1 = iZ row ∧ CDS w M s.2 W H D (fun x y => liB X Y dx dy t x y && decide ((y : Int) < Y + row)) wy) (Q := fun R => CDS w M R W H D (liB X Y dx dy t) wy) ?_ (k := (bot + 1 - top).toNat) ⟨top, by omega, by omega, by omega, rfl, CDS_c h (fun x y _ _ => ?_)⟩) (fun R h => ed_mk h)
  · rintro k ⟨x10, M11⟩ ⟨row, hk, r1, r2, e1, hC⟩
    replace e1 : x10 = iZ row := e1
    replace hC : CDS w M M11 W H D (fun x y => liB X Y dx dy t x y && decide ((y : Int) < Y + row)) wy := hC
    subst e1
    show ed (f_HPen_drawLine_L47 w (iZ dx) (iZ dy) (iZ t) (iZ bot) (iZ row) M11) _
    by_cases c : bot < row
    · unfold f_HPen_drawLine_L47
      have k0 : (iZ bot < iZ row) = (bot < row) := iZ_lt (by omega) (by omega)
      simp only [k0]
      rw [if_pos c]
      refine lpo_r (CDS_c hC (fun x y _ hy => ?_))
      cases hz : liB X Y dx dy t x y with
      | false => rfl
      | true =>
        have := liB_y hz (by omega) (lo := lo) (hi := hi) (by omega) (by omega) (by omega) (by omega)
        rw [Bool.true_and, decide_eq_true (by omega)]
    · refine s_lineRow hC hp (by omega) h3 h4 h5 (fun x y hy => ?_) bot (by omega) (fun R hR => ?_)
      · show (_ && decide _) = false
        rw [decide_eq_false (by omega), Bool.and_false]
      · refine ⟨k - 1, by omega, row + 1, by omega, by omega, by omega, rfl, CDS_c hR (fun x y _ _ => ?_)⟩
        show ((liB X Y dx dy t x y && decide ((y : Int) < Y + row)) || decide ((y : Int) = Y + row ∧ nearB ((x : Int) - X) row dx dy t = true)) = (liB X Y dx dy t x y && decide ((y : Int) < Y + (row + 1)))
        by_cases z : (y : Int) = Y + row
        · have e : liB X Y dx dy t x y = nearB ((x : Int) - X) row dx dy t := by
            unfold liB
            rw [show (y : Int) - Y = row by omega]
          rw [e, decide_eq_false (p := (y : Int) < Y + row) (by omega), decide_eq_true (p := (y : Int) < Y + (row + 1)) (by omega), Bool.and_false, Bool.false_or, Bool.and_true]
          cases nearB ((x : Int) - X) row dx dy t with
          | true => exact decide_eq_true ⟨z, rfl⟩
          | false => exact decide_eq_false (fun u => absurd u.2 (by decide))
        · rw [decide_eq_false (p := (y : Int) = Y + row ∧ _) (fun u => z u.1), Bool.or_false]
          congr 1
          exact decide_eq_decide.mpr (by omega)
  · cases hz : liB X Y dx dy t x y with
    | false => rfl
    | true =>
      have := liB_y hz (by omega) (lo := lo) (hi := hi) (by omega) (by omega) (by omega) (by omega)
      rw [Bool.true_and, decide_eq_false (by omega)]
theorem bl_line {M : im_M} {X Y dx dy t : Int} {x y : Nat} (h : FAT M X Y (X + dx) (Y + dy) t) (hX : -4096 ≤ X ∧ X ≤ 4096) (hY : -4096 ≤ Y ∧ Y ≤ 4096) (h3 : -8192 ≤ dx ∧ dx ≤ 8192) (h4 : -8192 ≤ dy ∧ dy ≤ 8192) (ht : 1 ≤ t ∧ t ≤ 200) (hx : x < 512) (hy : y < 512) : f_MDotRows_belongs 1 (nI x) (nI y) M = some (if liB X Y dx dy t x y = true then 1 else 0) := by
  obtain ⟨e1, e2, e3, e4, e5⟩ := h
  have d1 : Int32.toInt64 (iZ (X + dx) - iZ X) = lZ dx := by rw [iZ_sub, show X + dx - X = dx by omega, iZ_l (by omega)]
  have d2 : Int32.toInt64 (iZ (Y + dy) - iZ Y) = lZ dy := by rw [iZ_sub, show Y + dy - Y = dy by omega, iZ_l (by omega)]
  have d3 : Int32.toInt64 (iZ (x : Int) - iZ X) = lZ ((x : Int) - X) := by rw [iZ_sub, iZ_l (by omega)]
  have d4 : Int32.toInt64 (iZ (y : Int) - iZ Y) = lZ ((y : Int) - Y) := by rw [iZ_sub, iZ_l (by omega)]
  have d5 : Int32.toInt64 (iZ t) = lZ t := iZ_l (by omega)
  have key : f_MDotRows_inLine (nI x) (nI y) M = some (if liB X Y dx dy t x y = true then 1 else 0) := by
    unfold liB
    rw [← near_if (px := (x : Int) - X) (py := (y : Int) - Y) (dx := dx) (dy := dy) (t := t) (by omega) (by omega) (by omega) (by omega) (by omega)]
    unfold f_MDotRows_inLine
    rw [e1, e2, e3, e4, e5, iZ_nI (n := x), iZ_nI (n := y), d1, d2, d3, d4, d5, show (0 : Int64) = lZ 0 from rfl, show (4 : Int64) = lZ 4 from rfl]
    generalize (x : Int) - X = px
    generalize (y : Int) - Y = py
    simp only [lZ_mul, lZ_sub, lZ_add, lc_gt, lc_lt]
    rw [show dx * px + dy * py = px * dx + py * dy by grind, show 4 * (dx * py - dy * px) * (dx * py - dy * px) = 4 * (px * dy - py * dx) * (px * dy - py * dx) by grind]
  unfold f_MDotRows_belongs
  rw [if_pos (by decide), if_neg (fun z => z rfl), key, bd1_s]
  cases liB X Y dx dy t x y <;> rfl
theorem s_lineM {M : im_M} {W H : Nat} {D : Nat → Nat → Bool} {wy : Int32} {X Y dx dy t : Int} (q : DR M W H D) (hwy : im_i M 89 3 = wy) (hw2 : wy = 0 ∨ wy = 2) (hX : -4096 ≤ X ∧ X ≤ 4096) (hY : -4096 ≤ Y ∧ Y ≤ 4096) (h3 : -4096 ≤ X + dx ∧ X + dx ≤ 4096) (h4 : -4096 ≤ Y + dy ∧ Y + dy ≤ 4096) (ht : 1 ≤ t ∧ t ≤ 200) : ed (f_MDotRows_line (iZ X) (iZ Y) (iZ X + iZ dx) (iZ Y + iZ dy) (iZ t) M) (DRW M W H D (liB X Y dx dy t) wy) := by
  rw [iZ_add, iZ_add]
  unfold f_MDotRows_line f_MDotRows_at
  have r3 : f_MDotRows_isNot (iZ t) 1 200 M = some 0 := isnZ (a := 1) (b := 200) ht (by omega) (by omega)
  simp only [jn0]
  rw [noPlZ hX hY, bd1_s, if_neg (fun z => z rfl), noPlZ h3 h4, bd1_s, if_neg (fun z => z rfl), r3, bd1_s, if_pos rfl, bd1_s]
  rw [if_pos (show im_i (im_setI M 89 0 0) 89 0 ≤ 0 by show (0 : Int32) ≤ 0; decide), bd1_s]
  generalize hN : im_setI (im_setI (im_setI (im_setI (im_setI (im_setI M 89 0 0) 89 10 (iZ X)) 89 11 (iZ Y)) 89 12 (iZ (X + dx))) 89 13 (iZ (Y + dy))) 89 14 (iZ t) = N
  have fN : fr 0 [(89, 0), (89, 10), (89, 11), (89, 12), (89, 13), (89, 14)] M N := by
    rw [← hN]
    exact fr_F (by decide) (fr_F (by decide) (fr_F (by decide) (fr_F (by decide) (fr_F (by decide) (fr_F (by decide) fr_refl)))))
  have fat : FAT N X Y (X + dx) (Y + dy) t := by rw [← hN]; exact ⟨rfl, rfl, rfl, rfl, rfl⟩
  have qN : DR N W H D := DR_fr fN (by decide +kernel) q
  apply bd2_mk
  refine ed_mono (s_draw (B := liB X Y dx dy t) (fig := 1) qN ((fN.1 89 3 (by decide) (by decide)).trans hwy) hw2 (fun M' f' x y hx hy => ?_)) ?_
  · have := qN.1
    refine bl_line ⟨?_, ?_, ?_, ?_, ?_⟩ hX hY (by omega) (by omega) ht (by omega) (by omega)
    · rw [f'.1 89 10 (by decide) (by decide)]; exact fat.1
    · rw [f'.1 89 11 (by decide) (by decide)]; exact fat.2.1
    · rw [f'.1 89 12 (by decide) (by decide)]; exact fat.2.2.1
    · rw [f'.1 89 13 (by decide) (by decide)]; exact fat.2.2.2.1
    · rw [f'.1 89 14 (by decide) (by decide)]; exact fat.2.2.2.2
  · rintro ⟨x19, M19⟩ ⟨h1, h2, h3⟩
    exact ed_mk ⟨h1, h2, fr_tr (fr_mono (by decide) (by decide) h3) (fr_mono (by decide) (by decide) fN)⟩
