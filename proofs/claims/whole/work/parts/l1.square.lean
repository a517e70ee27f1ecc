/-! SQUARES -/
def sqT (G : Nat → Nat → Bool) (n m : Nat) (i j : Nat) : Bool := decide (i / m < n ∧ j / m < n) && G (i / m) (j / m)
def sqL (G : Nat → Nat → Bool) (n m r c : Nat) (i j : Nat) : Bool := sqT G n m i j && decide (j / m < r ∨ (j / m = r ∧ i / m < c))
theorem rec_cell {m c r i j : Nat} (hm : 1 ≤ m) : recT (m * c) (m * r) m m i j = decide (i / m = c ∧ j / m = r) := by
  unfold recT
  apply decide_eq_decide.mpr
  have a := div_in (t := i) (p := m) (a := c) (b := c + 1) hm
  have b := div_in (t := j) (p := m) (a := r) (b := r + 1) hm
  rw [Nat.mul_add, Nat.mul_one] at a b
  constructor
  · rintro ⟨h1, h2, h3, h4⟩
    have := a.mp ⟨h1, h2⟩
    have := b.mp ⟨h3, h4⟩
    omega
  · rintro ⟨h1, h2⟩
    have := a.mpr ⟨by omega, by omega⟩
    have := b.mpr ⟨by omega, by omega⟩
    omega
theorem sqL_c {G : Nat → Nat → Bool} {n m r c i j : Nat} (hr : r < n) (hc : c < n) : sqL G n m r (c + 1) i j = (sqL G n m r c i j || (G c r && decide (i / m = c ∧ j / m = r))) := by
  unfold sqL sqT
  by_cases z : i / m = c ∧ j / m = r
  · obtain ⟨rfl, rfl⟩ := z
    rw [decide_eq_true (p := i / m < n ∧ j / m < n) ⟨hc, hr⟩, decide_eq_true (p := j / m < j / m ∨ (j / m = j / m ∧ i / m < i / m + 1)) (by omega), decide_eq_false (p := j / m < j / m ∨ (j / m = j / m ∧ i / m < i / m)) (by omega), decide_eq_true (p := i / m = i / m ∧ j / m = j / m) ⟨rfl, rfl⟩, Bool.true_and, Bool.and_true, Bool.and_false, Bool.false_or]
  · rw [decide_eq_false z, Bool.and_false, Bool.or_false]
    congr 1
    generalize i / m = a at *
    generalize j / m = b at *
    exact decide_eq_decide.mpr (by omega)
theorem sqL_r {G : Nat → Nat → Bool} {n m r i j : Nat} : sqL G n m r n i j = sqL G n m (r + 1) 0 i j := by
  unfold sqL
  cases h : sqT G n m i j with
  | false => rfl
  | true =>
    unfold sqT at h
    rw [Bool.and_eq_true] at h
    have := of_decide_eq_true h.1
    rw [Bool.true_and, Bool.true_and]
    clear h
    generalize i / m = a at *
    generalize j / m = b at *
    exact decide_eq_decide.mpr (by omega)
theorem sqL_e {G : Nat → Nat → Bool} {n m i j : Nat} : sqL G n m n 0 i j = sqT G n m i j := by
  unfold sqL
  cases h : sqT G n m i j with
  | false => rfl
  | true =>
    unfold sqT at h
    rw [Bool.and_eq_true] at h
    have := of_decide_eq_true h.1
    rw [Bool.true_and, decide_eq_true (Or.inl this.2)]
/-- the class's modules -/
def GRD (M : im_M) (n : Nat) (G : Nat → Nat → Bool) : Prop := im_i M 38 1 = nI n ∧ n ≤ 177 ∧ ∀ c r, c < n → r < n → (im_i M 54 (177 * r + c) = 0) = (G c r = false)
theorem GRD_fr {A : Nat} {F : List (Nat × Nat)} {M M' : im_M} {n : Nat} {G : Nat → Nat → Bool} (h : fr A F M M') (c : clr A F [54] [(38, 1)] [] = true) (q : GRD M n G) : GRD M' n G := by
  unfold GRD at q ⊢
  rw [clr_f c h (a := 38) (k := 1) (by decide), clr_a c h (a := 54) (by decide)]
  exact q
theorem s_drawSquare {w : Bool} {M : im_M} {W H q m n : Nat} {D G : Nat → Nat → Bool} {wy : Int32} {X Y : Int} (h : CDS w M M W H D (fun _ _ => false) wy) (hp : PN M X Y q) (hv : GRD M n G) (hm : 1 ≤ m ∧ m ≤ 50) : ed (f_HPen_drawSquare w 1 (nI m) M) (fun R => CDS w M R W H D (qB q X Y (sqT G n m)) wy) := by
  obtain ⟨v0, n9, v1⟩ := hv
  unfold f_HPen_drawSquare
  apply bd1_mk
  refine ed_mono (lp_inv (fun k (t : Int32 × im_M) => ∃ r : Nat, r + k = n ∧ t.1 = nI r ∧ CDS w M t.2 W H D (qB q X Y (sqL G n m r 0)) wy) (Q := fun R => CDS w M R W H D (qB q X Y (sqT G n m)) wy) ?_ (k := n) ⟨0, by omega, rfl, CDS_c h (fun x y _ _ => ?_)⟩) (fun R h => ed_mk h)
  · rintro k ⟨x4, M5⟩ ⟨r, hr, e1, hC⟩
    replace e1 : x4 = nI r := e1
    replace hC : CDS w M M5 W H D (qB q X Y (sqL G n m r 0)) wy := hC
    subst e1
    show ed (f_HPen_drawSquare_L2 w 1 (nI m) (nI r) M5) _
    unfold f_HPen_drawSquare_L2
    rw [if_neg (by decide), (hC.2.2.2.1 38 1 (by decide) (by decide)).trans v0, if_nIl (by omega) (by omega)]
    by_cases c1 : n ≤ r
    · rw [if_pos c1]
      obtain rfl : r = n := by omega
      exact lpo_r (CDS_q hC (fun i j => sqL_e))
    · rw [if_neg c1]
      apply bd1_mk
      refine ed_mono (lp_inv (fun k (t : Int32 × im_M) => ∃ c : Nat, c + k = n ∧ t.1 = nI c ∧ CDS w M t.2 W H D (qB q X Y (sqL G n m r c)) wy) (Q := fun R => CDS w M R W H D (qB q X Y (sqL G n m (r + 1) 0)) wy) ?_ (k := n) ⟨0, by omega, rfl, hC⟩) ?_
      · rintro k2 ⟨x10, M11⟩ ⟨c, hc, e2, hC2⟩
        replace e2 : x10 = nI c := e2
        replace hC2 : CDS w M M11 W H D (qB q X Y (sqL G n m r c)) wy := hC2
        subst e2
        show ed (f_HPen_drawSquare_L20 w 1 (nI m) (nI r) (nI c) M11) _
        unfold f_HPen_drawSquare_L20
        have a54 : im_i M11 54 = im_i M 54 := fr_c hC2.2.2.2 54 (by decide) (by decide)
        rw [(hC2.2.2.2.1 38 1 (by decide) (by decide)).trans v0, if_nIl (by omega) (by omega)]
        by_cases c2 : n ≤ c
        · rw [if_pos c2]
          obtain rfl : c = n := by omega
          exact lpo_r (CDS_q hC2 (fun i j => sqL_r))
        · have b1 : m * c ≤ 50 * 177 := Nat.mul_le_mul (by omega) (by omega)
          have b2 : m * r ≤ 50 * 177 := Nat.mul_le_mul (by omega) (by omega)
          have ei : nI r * 177 + nI c = nI (177 * r + c) := by rw [show (177 : Int32) = nI 177 from rfl, nI_mul, nI_add, Nat.mul_comm]
          rw [if_neg c2, nI_mul, nI_mul]
          unfold f_HGrid_isDark
          rw [ei, gd_pos (by rw [inb_nI (by omega)]; omega), nI_clamp (by omega), a54]
          simp only [v1 c r (by omega) (by omega)]
          cases hg : G c r with
          | false =>
            rw [if_pos rfl, bd1_s, if_pos rfl, bd1_s]
            refine lpo_l (k2 - 1) (by omega) ⟨c + 1, by omega, nI_add c 1, CDS_q hC2 (fun i j => ?_)⟩
            rw [sqL_c (by omega) (by omega), hg, Bool.false_and, Bool.or_false]
          | true =>
            rw [if_neg (by decide), bd1_s, if_neg (by decide)]
            apply bd1_mk
            apply bd1_mk
            refine ed_mono (s_strikeQ hC2 hp (by omega) (by omega) (by omega) (by omega) (fun i j hz => ?_)) ?_
            · rw [rec_cell hm.1] at hz
              have hz := of_decide_eq_true hz
              unfold sqL
              rw [decide_eq_false (by omega), Bool.and_false]
            · intro R hR
              refine ed_mk (lpo_l (k2 - 1) (by omega) ⟨c + 1, by omega, nI_add c 1, CDS_q hR (fun i j => ?_)⟩)
              rw [sqL_c (by omega) (by omega), hg, Bool.true_and, rec_cell hm.1]
      · intro R hR
        exact lpo_l (k - 1) (by omega) ⟨r + 1, by omega, nI_add r 1, hR⟩
  · unfold qB sqL
    rw [decide_eq_false (p := (acQ q X Y x y).toNat / m < 0 ∨ ((acQ q X Y x y).toNat / m = 0 ∧ (alQ q X Y x y).toNat / m < 0)) (fun z => by
      rcases z with z | z
      · exact Nat.not_lt_zero _ z
      · exact Nat.not_lt_zero _ z.2), Bool.and_false, Bool.and_false]
theorem s_inSquare {M : im_M} {m n s i j : Nat} {B : Nat → Nat} {G : Nat → Nat → Bool} (e12 : im_i M 89 12 = nI n) (e13 : im_i M 89 13 = nI m) (hd : DFT M s B) (hn : n ≤ 177) (hs : n * n ≤ 8 * s) (hm : 1 ≤ m ∧ m ≤ 50) (hi : i ≤ 5000) (hj : j ≤ 5000) (hG : ∀ c r, c < n → r < n → ib (nI (B ((n * r + c) / 8))) (7 - (n * r + c) % 8) = G c r) : f_MDotRows_inSquare (nI i) (nI j) M = some (if sqT G n m i j = true then 1 else 0) := by
  have dp : nI i / nI m = nI (i / m) := nI_div (by omega) (by omega) (by omega)
  have dq : nI j / nI m = nI (j / m) := nI_div (by omega) (by omega) (by omega)
  have n13 : ¬ nI m = 0 := nI_z (by omega) (by omega)
  have i2 : i / m ≤ 5000 := Nat.le_trans (Nat.div_le_self _ _) hi
  have j2 : j / m ≤ 5000 := Nat.le_trans (Nat.div_le_self _ _) hj
  unfold f_MDotRows_inSquare
  simp only [e12, e13, dp, dq, gd_pos n13]
  unfold sqT
  generalize i / m = c at *
  generalize j / m = r at *
  rw [if_nIl (by omega) (by omega)]
  by_cases a1 : n ≤ c
  · rw [if_pos a1, decide_eq_false (by omega), Bool.false_and]; rfl
  · rw [if_neg a1, if_nIl (by omega) (by omega)]
    by_cases a2 : n ≤ r
    · rw [if_pos a2, decide_eq_false (by omega), Bool.false_and]; rfl
    · have b : n * (r + 1) ≤ n * n := Nat.mul_le_mul_left _ (by omega)
      rw [Nat.mul_add, Nat.mul_one] at b
      have b3 : n * n ≤ 177 * 177 := Nat.mul_le_mul hn hn
      rw [if_neg a2, nI_mul, nI_add, s_bitM hd (by omega) (by omega), bd1_s, hG c r (by omega) (by omega), decide_eq_true (p := c < n ∧ r < n) (by omega), Bool.true_and]
      cases G c r <;> rfl
theorem s_squareM {M : im_M} {W H q m n s : Nat} {D G : Nat → Nat → Bool} {wy : Int32} {X Y : Int} {B : Nat → Nat} (hD : DR M W H D) (hwy : im_i M 89 3 = wy) (hw2 : wy = 0 ∨ wy = 2) (hX : -4096 ≤ X ∧ X ≤ 4096) (hY : -4096 ≤ Y ∧ Y ≤ 4096) (hn : 1 ≤ n ∧ n ≤ 177) (hm : 1 ≤ m ∧ m ≤ 50) (hq : q < 4) (hd : DFT M s B) (hs : n * n ≤ 8 * s) (hG : ∀ c r, c < n → r < n → ib (nI (B ((n * r + c) / 8))) (7 - (n * r + c) % 8) = G c r) : ed (f_MDotRows_square (iZ X) (iZ Y) (nI n) (nI m) (nI q) M) (DRW M W H D (qB q X Y (sqT G n m)) wy) := by
  have nn : ∀ (v a b : Nat), a ≤ v ∧ v ≤ b → b ≤ 100000 → f_MDotRows_isNot (nI v) (nI a) (nI b) M = some 0 := fun v a b h1 h2 => by
    rw [iZ_nI (n := v), iZ_nI (n := a), iZ_nI (n := b)]
    exact isnZ (by omega) (by omega) (by omega)
  have r1 : f_MDotRows_isNot (nI n) 1 177 M = some 0 := nn n 1 177 (by omega) (by omega)
  have r2 : f_MDotRows_isNot (nI m) 1 50 M = some 0 := nn m 1 50 (by omega) (by omega)
  have r3 : f_MDotRows_isNot (nI q) 0 3 M = some 0 := nn q 0 3 (by omega) (by omega)
  have s4 := hd.2.1
  have b3 : n * n ≤ 177 * 177 := Nat.mul_le_mul hn.2 hn.2
  have fit : (nI n * nI n ≤ (8 : Int32) * im_i M 89 7) = (n * n ≤ 8 * s) := by rw [hd.1, nI_mul, nI_m]; exact nIl (by omega) (by omega)
  unfold f_MDotRows_square f_MDotRows_at
  simp only [jn0, fit]
  rw [noPlZ hX hY, bd1_s, if_neg (fun z => z rfl), r1, bd1_s, if_neg (fun z => z rfl), r2, bd1_s, if_neg (fun z => z rfl), r3, bd1_s, if_pos rfl, if_pos hs, bd1_s]
  rw [if_pos (show im_i (im_setI M 89 0 0) 89 0 ≤ 0 by show (0 : Int32) ≤ 0; decide), bd1_s]
  generalize hN : im_setI (im_setI (im_setI (im_setI (im_setI (im_setI (im_setI M 89 0 0) 89 10 (iZ X)) 89 11 (iZ Y)) 89 12 (nI n)) 89 13 (nI m)) 89 14 0) 89 15 (nI q) = N
  have fN : fr 0 [(89, 0), (89, 10), (89, 11), (89, 12), (89, 13), (89, 14), (89, 15)] M N := by
    rw [← hN]
    exact fr_F (by decide) (fr_F (by decide) (fr_F (by decide) (fr_F (by decide) (fr_F (by decide) (fr_F (by decide) (fr_F (by decide) fr_refl))))))
  have n10 : im_i N 89 10 = iZ X := by rw [← hN]; rfl
  have n11 : im_i N 89 11 = iZ Y := by rw [← hN]; rfl
  have n12 : im_i N 89 12 = nI n := by rw [← hN]; rfl
  have n13 : im_i N 89 13 = nI m := by rw [← hN]; rfl
  have n15 : im_i N 89 15 = nI q := by rw [← hN]; rfl
  have qN : DR N W H D := DR_fr fN (by decide +kernel) hD
  apply bd2_mk
  refine ed_mono (s_draw (B := qB q X Y (sqT G n m)) (fig := 5) qN ((fN.1 89 3 (by decide) (by decide)).trans hwy) hw2 (fun M' f' x y hx hy => ?_)) ?_
  · have := qN.1
    have k : ∀ j, im_i M' 89 j = im_i N 89 j := fun j => f'.1 89 j (by decide) (by simp)
    refine bl_steps ((k 10).trans n10) ((k 11).trans n11) ((k 15).trans n15) hq hX hY (by omega) (by omega) (by decide) (fun i j hi hj => ?_)
    rw [if_pos (by decide), if_pos (by decide), s_inSquare ((k 12).trans n12) ((k 13).trans n13) (DFT_fr f' (by decide +kernel) (DFT_fr fN (by decide +kernel) hd)) hn.2 hs hm (by omega) (by omega) hG, bd1_s]
    cases sqT G n m i j <;> rfl
  · rintro ⟨x19, M19⟩ ⟨h1, h2, h3⟩
    exact ed_mk ⟨h1, h2, fr_tr (fr_mono (by decide) (by simp) h3) (fr_mono (by decide) (by decide) fN)⟩
