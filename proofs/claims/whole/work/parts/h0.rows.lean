/-! ROWS OF THE CLASS'S DRAFT -/
def rwC (k x y r w p b c s a sl ct st wh : Int32) (u : Nat) : Int32 := if u = 0 then k else if u = 1 then x else if u = 2 then y else if u = 3 then r else if u = 4 then w else if u = 5 then p else if u = 6 then b else if u = 7 then c else if u = 8 then s else if u = 9 then a else if u = 10 then sl else if u = 11 then ct else if u = 12 then st else wh
/-- row k is v, all others as before -/
def RWK (M R : im_M) (k : Nat) (v : Nat → Int32) : Prop := fr (2 ^ 21) [] M R ∧ ∀ p, im_i R 21 p = if 14 * k ≤ p ∧ p < 14 * k + 14 then v (p - 14 * k) else im_i M 21 p
theorem s_fill14 {M : im_M} {k : Nat} (hk : k < 140) : ed (f_Arrays_fill (nI (14 * k)) (nI (14 * k + 14)) 0 M) (fun R => RWK M R k (fun _ => 0)) := by
  unfold f_Arrays_fill f_Arrays_rangeCheck
  have c0 : ((0 : Int32) ≤ nI (14 * k)) := by
    have : ((0 : Int32) ≤ nI (14 * k)) = (0 ≤ 14 * k) := nIl (x := 0) (by omega) (by omega)
    rw [this]; omega
  have c1 : (nI (14 * k + 14) ≤ 1960) := by
    have : (nI (14 * k + 14) ≤ 1960) = (14 * k + 14 ≤ 1960) := nIl (c := 1960) (by omega) (by omega)
    rw [this]; omega
  rw [if_nIl (by omega) (by omega), if_pos (by omega), if_pos c0, if_pos c1]
  show ed (bd1 (lp (uc2 (f_Arrays_fill_L10 (nI (14 * k + 14)) 0)) (nI (14 * k), M)) fun M7 => some M7) _
  apply bd1_mk
  refine ed_mono (lp_inv (fun m (s : Int32 × im_M) => ∃ i : Nat, i + m = 14 ∧ s.1 = nI (14 * k + i) ∧ fr (2 ^ 21) [] M s.2 ∧ ∀ p, im_i s.2 21 p = if 14 * k ≤ p ∧ p < 14 * k + i then 0 else im_i M 21 p) (Q := fun R => RWK M R k (fun _ => 0)) ?_ (k := 14) ⟨0, by omega, rfl, fr_refl, fun p => by rw [if_neg (by omega)]⟩) (fun r h => ed_mk h)
  rintro m ⟨x5, M6⟩ ⟨i, hi, e1, f, h⟩
  replace e1 : x5 = nI (14 * k + i) := e1
  replace f : fr (2 ^ 21) [] M M6 := f
  replace h : ∀ p, im_i M6 21 p = if 14 * k ≤ p ∧ p < 14 * k + i then 0 else im_i M 21 p := h
  subst e1
  show ed (f_Arrays_fill_L10 (nI (14 * k + 14)) 0 (nI (14 * k + i)) M6) _
  unfold f_Arrays_fill_L10
  rw [if_nIl (by omega) (by omega)]
  by_cases c : 14 * k + 14 ≤ 14 * k + i
  · rw [if_pos c]
    obtain rfl : i = 14 := by omega
    exact lpo_r ⟨f, h⟩
  · rw [if_neg c, gd_pos (by rw [inb_nI (by omega)]; omega), nI_clamp (by omega)]
    refine lpo_l (m - 1) (by omega) ⟨i + 1, by omega, by rw [show nI (14 * k + i) + 1 = nI (14 * k + i + 1) from nI_add _ 1, Nat.add_assoc], fr_I (by decide) f, fun p => ?_⟩
    show (if p = 14 * k + i then (0 : Int32) else im_i M6 21 p) = _
    by_cases e : p = 14 * k + i
    · rw [if_pos e, if_pos (by omega)]
    · rw [if_neg e, h]
      by_cases d : 14 * k ≤ p ∧ p < 14 * k + i
      · rw [if_pos d, if_pos (by omega)]
      · rw [if_neg d, if_neg (by omega)]
/-- some entries of row k written -/
theorem RWK_s {M R : im_M} {k : Nat} {v : Nat → Int32} {u : Nat} {z : Int32} (hu : u < 14) (h : RWK M R k v) : RWK M (im_setI R 21 (14 * k + u) z) k (fun t => if t = u then z else v t) := by
  refine ⟨fr_I (by decide) h.1, fun p => ?_⟩
  show (if p = 14 * k + u then z else im_i R 21 p) = _
  by_cases e : p = 14 * k + u
  · rw [if_pos e, if_pos (by omega)]
    show z = if p - 14 * k = u then z else v (p - 14 * k)
    rw [if_pos (by omega)]
  · rw [if_neg e, h.2]
    by_cases d : 14 * k ≤ p ∧ p < 14 * k + 14
    · rw [if_pos d, if_pos d]
      show v (p - 14 * k) = if p - 14 * k = u then z else v (p - 14 * k)
      rw [if_neg (by omega)]
    · rw [if_neg d, if_neg d]
theorem RWK_v {M R : im_M} {k : Nat} {v v' : Nat → Int32} (h : RWK M R k v) (e : ∀ u, u < 14 → v u = v' u) : RWK M R k v' := by
  refine ⟨h.1, fun p => ?_⟩
  rw [h.2]
  by_cases d : 14 * k ≤ p ∧ p < 14 * k + 14
  · rw [if_pos d, if_pos d, e _ (by omega)]
  · rw [if_neg d, if_neg d]
theorem RWK_i {M R : im_M} {k : Nat} {v : Nat → Int32} {u : Nat} (hu : u < 14) (h : RWK M R k v) : im_i R 21 (14 * k + u) = v u := by
  rw [h.2, if_pos (by omega), Nat.add_sub_cancel_left]
theorem k14 {k : Nat} : nI k * 14 = nI (14 * k) := by rw [nI_n, nI_mul, Nat.mul_comm]
theorem s_lay {M : im_M} {k : Nat} {kd x y r : Int32} (hk : k < 140) : ed (f_HOrders_lay (nI k) kd x y r M) (fun R => RWK M R k (rwC kd x y r 0 0 0 0 0 0 0 0 0 0)) := by
  unfold f_HOrders_lay
  rw [k14, show nI (14 * k) + 14 = nI (14 * k + 14) from nI_add _ 14, show nI (14 * k) + 0 = nI (14 * k + 0) from nI_add _ 0, show nI (14 * k) + 1 = nI (14 * k + 1) from nI_add _ 1, show nI (14 * k) + 2 = nI (14 * k + 2) from nI_add _ 2, show nI (14 * k) + 3 = nI (14 * k + 3) from nI_add _ 3]
  apply bd1_mk
  refine ed_mono (s_fill14 hk) ?_
  intro R h
  rw [gd_pos (by rw [inb_nI (by omega)]; omega), gd_pos (by rw [inb_nI (by omega)]; omega), gd_pos (by rw [inb_nI (by omega)]; omega), gd_pos (by rw [inb_nI (by omega)]; omega), nI_clamp (by omega), nI_clamp (by omega), nI_clamp (by omega), nI_clamp (by omega)]
  refine ed_mk (RWK_v (RWK_s (by omega) (RWK_s (by omega) (RWK_s (by omega) (RWK_s (by omega) h)))) (fun u hu => ?_))
  unfold rwC
  have : u = 0 ∨ u = 1 ∨ u = 2 ∨ u = 3 ∨ 3 < u := by omega
  rcases this with rfl | rfl | rfl | rfl | h3
  · rfl
  · rfl
  · rfl
  · rfl
  · rw [if_neg (by omega), if_neg (by omega), if_neg (by omega), if_neg (by omega), if_neg (by omega), if_neg (by omega), if_neg (by omega), if_neg (by omega)]
    repeat' split
    all_goals rfl
theorem s_number {M R : im_M} {k : Nat} {kd x y r w p b c s a sl ct st wh P1 P2 P3 : Int32} (hk : k < 140) (h : RWK M R k (rwC kd x y r w p b c s a sl ct st wh)) : ed (f_HOrders_number (nI k) P1 P2 P3 R) (fun R' => RWK M R' k (rwC kd x y r w P1 P2 P3 s a sl ct st wh)) := by
  unfold f_HOrders_number
  rw [k14, show nI (14 * k) + 5 = nI (14 * k + 5) from nI_add _ 5, show nI (14 * k) + 6 = nI (14 * k + 6) from nI_add _ 6, show nI (14 * k) + 7 = nI (14 * k + 7) from nI_add _ 7, gd_pos (by rw [inb_nI (by omega)]; omega), gd_pos (by rw [inb_nI (by omega)]; omega), gd_pos (by rw [inb_nI (by omega)]; omega), nI_clamp (by omega), nI_clamp (by omega), nI_clamp (by omega)]
  refine ed_mk (RWK_v (RWK_s (by omega) (RWK_s (by omega) (RWK_s (by omega) h))) (fun u hu => ?_))
  unfold rwC
  have : u = 0 ∨ u = 1 ∨ u = 2 ∨ u = 3 ∨ u = 4 ∨ u = 5 ∨ u = 6 ∨ u = 7 ∨ u = 8 ∨ u = 9 ∨ u = 10 ∨ u = 11 ∨ u = 12 ∨ u = 13 := by omega
  rcases this with rfl | rfl | rfl | rfl | rfl | rfl | rfl | rfl | rfl | rfl | rfl | rfl | rfl | rfl <;> rfl
theorem s_slice {M R : im_M} {k : Nat} {kd x y r w p b c s a sl ct st wh S1 S2 S3 : Int32} (hk : k < 140) (h : RWK M R k (rwC kd x y r w p b c s a sl ct st wh)) : ed (f_HOrders_slice (nI k) S1 S2 S3 R) (fun R' => RWK M R' k (rwC kd x y r w p b c S3 S2 S1 ct st wh)) := by
  unfold f_HOrders_slice
  rw [k14, show nI (14 * k) + 10 = nI (14 * k + 10) from nI_add _ 10, show nI (14 * k) + 9 = nI (14 * k + 9) from nI_add _ 9, show nI (14 * k) + 8 = nI (14 * k + 8) from nI_add _ 8, gd_pos (by rw [inb_nI (by omega)]; omega), gd_pos (by rw [inb_nI (by omega)]; omega), gd_pos (by rw [inb_nI (by omega)]; omega), nI_clamp (by omega), nI_clamp (by omega), nI_clamp (by omega)]
  refine ed_mk (RWK_v (RWK_s (by omega) (RWK_s (by omega) (RWK_s (by omega) h))) (fun u hu => ?_))
  unfold rwC
  have : u = 0 ∨ u = 1 ∨ u = 2 ∨ u = 3 ∨ u = 4 ∨ u = 5 ∨ u = 6 ∨ u = 7 ∨ u = 8 ∨ u = 9 ∨ u = 10 ∨ u = 11 ∨ u = 12 ∨ u = 13 := by omega
  rcases this with rfl | rfl | rfl | rfl | rfl | rfl | rfl | rfl | rfl | rfl | rfl | rfl | rfl | rfl <;> rfl
theorem s_move {M R : im_M} {k : Nat} {kd x y r w p b c s a sl ct st wh i j : Int32} (hk : k < 140) (h : RWK M R k (rwC kd x y r w p b c s a sl ct st wh)) : ed (f_HOrders_move (nI k) i j R) (fun R' => RWK M R' k (rwC kd (sxI x i j r) (syI y i j r) r w p b c s a sl ct st wh)) := by
  unfold f_HOrders_move
  have v1 : im_i R 21 (14 * k + 1) = x := RWK_i (by omega) h
  have v2 : im_i R 21 (14 * k + 2) = y := RWK_i (by omega) h
  have v3 : im_i R 21 (14 * k + 3) = r := RWK_i (by omega) h
  have w2 : ∀ z, im_i (im_setI R 21 (14 * k + 1) z) 21 (14 * k + 2) = y := fun z => by
    show (if 14 * k + 2 = 14 * k + 1 then z else im_i R 21 (14 * k + 2)) = y
    rw [if_neg (by omega), v2]
  rw [k14, show nI (14 * k) + 1 = nI (14 * k + 1) from nI_add _ 1, show nI (14 * k) + 2 = nI (14 * k + 2) from nI_add _ 2, show nI (14 * k) + 3 = nI (14 * k + 3) from nI_add _ 3, gd_pos (by rw [inb_nI (by omega)]; omega), gd_pos (by rw [inb_nI (by omega)]; omega), gd_pos (by rw [inb_nI (by omega)]; omega), gd_pos (by rw [inb_nI (by omega)]; omega), gd_pos (by rw [inb_nI (by omega)]; omega), nI_clamp (by omega), nI_clamp (by omega), nI_clamp (by omega), v1, v3, w2]
  have ex : x + (if ¬ r = 0 then (if ¬ r = 1 then (if ¬ r = 2 then j else -i) else -j) else i) = sxI x i j r := by
    unfold sxI
    repeat' split
    · rfl
    · rw [Int32.sub_eq_add_neg]
    · rw [Int32.sub_eq_add_neg]
    · rfl
  have ey : y + (if ¬ r = 0 then (if ¬ r = 1 then (if ¬ r = 2 then -i else -j) else i) else j) = syI y i j r := by
    unfold syI
    repeat' split
    · rw [Int32.sub_eq_add_neg]
    · rw [Int32.sub_eq_add_neg]
    · rfl
    · rfl
  rw [ex, ey]
  refine ed_mk (RWK_v (RWK_s (by omega) (RWK_s (by omega) h)) (fun u hu => ?_))
  unfold rwC
  have : u = 0 ∨ u = 1 ∨ u = 2 ∨ u = 3 ∨ u = 4 ∨ u = 5 ∨ u = 6 ∨ u = 7 ∨ u = 8 ∨ u = 9 ∨ u = 10 ∨ u = 11 ∨ u = 12 ∨ u = 13 := by omega
  rcases this with rfl | rfl | rfl | rfl | rfl | rfl | rfl | rfl | rfl | rfl | rfl | rfl | rfl | rfl <;> rfl
