/-! BARS BY THE REFERENCE -/
/-- where column i stands: y1 - 1 is the bar, l dots are left -/
def BCI (V : Nat → Nat) (m n i y1 l : Nat) : Prop := y1 ≤ n + 1 ∧ (y1 ≤ n → m * smV V (y1 - 1) ≤ i ∧ i + l = m * smV V y1) ∧ (y1 = n + 1 → l = 0 ∧ m * smV V n ≤ i)
theorem s_barStep {M : im_M} {V : Nat → Nat} {m n i y1 l : Nat} {a b c d e : Int32} (hd : DFT M n V) (hm : m ≤ 50) (hb : m * smV V n ≤ 200000) (h : BCI V m n i y1 l) : ed (lp (uc2 (f_MDotRows_bars_L75 a b c (nI m) d e M)) (iZ ((y1 : Int) - 1), nI l)) (fun r => ∃ y l : Nat, r = (iZ ((y : Int) - 1), nI l) ∧ BCI V m n i y l ∧ (l ≠ 0 ∨ y = n + 1)) := by
  obtain ⟨d0, d1, d2⟩ := hd
  refine lp_inv (fun k (t : Int32 × Int32) => ∃ y l : Nat, y + k = n + 1 ∧ t.1 = iZ ((y : Int) - 1) ∧ t.2 = nI l ∧ BCI V m n i y l) (Q := fun r => ∃ y l : Nat, r = (iZ ((y : Int) - 1), nI l) ∧ BCI V m n i y l ∧ (l ≠ 0 ∨ y = n + 1)) ?_ (k := n + 1 - y1) ⟨y1, l, by have := h.1; omega, rfl, rfl, h⟩
  rintro k ⟨x37, x38⟩ ⟨y, l, hy, e1, e2, hI⟩
  replace e1 : x37 = iZ ((y : Int) - 1) := e1
  replace e2 : x38 = nI l := e2
  subst e1 e2
  show ed (f_MDotRows_bars_L75 a b c (nI m) d e M (iZ ((y : Int) - 1)) (nI l)) _
  unfold f_MDotRows_bars_L75
  have l2 : l ≤ 200000 := by
    by_cases z : y ≤ n
    · have := (hI.2.1 z).2
      have : m * smV V y ≤ m * smV V n := Nat.mul_le_mul_left _ (smV_le z)
      omega
    · have := (hI.2.2 (by omega)).1
      omega
  have k0 : (nI l = 0) = (l = 0) := nIe (c := 0) (by omega) (by omega)
  simp only [k0]
  by_cases c1 : l = 0
  · rw [if_neg (fun z => z c1), d0, iZ_nI (n := n)]
    have k1 : (iZ (n : Int) ≤ iZ ((y : Int) - 1)) = ((n : Int) ≤ (y : Int) - 1) := iZ_le (by omega) (by omega)
    simp only [k1]
    by_cases c2 : (n : Int) ≤ (y : Int) - 1
    · rw [if_pos c2]
      exact lpo_r ⟨y, l, rfl, hI, Or.inr (by omega)⟩
    · have ey : iZ ((y : Int) - 1) + 1 = nI y := by rw [show (1 : Int32) = iZ 1 from rfl, iZ_add, iZ_nI]; congr 1; omega
      have ey2 : nI y = iZ (((y + 1 : Nat) : Int) - 1) := by rw [iZ_nI]; congr 1; omega
      have hy1 := hI.2.1 (by omega)
      rw [if_neg c2, ey, ← iZ_nI, if_nIl (by omega) (by omega)]
      by_cases c3 : n ≤ y
      · rw [if_pos c3, bd1_s]
        obtain rfl : y = n := by omega
        exact lpo_l (k - 1) (by omega) ⟨y + 1, 0, by omega, ey2, rfl, by omega, fun z => absurd z (by omega), fun _ => ⟨rfl, by omega⟩⟩
      · have st : m * smV V (y + 1) = m * smV V y + m * V y := Nat.mul_add _ _ _
        rw [if_neg c3, gd_pos (by rw [inb_nI (by omega)]; omega), nI_clamp (by omega), (d2 y (by omega)).2, nI_mul, bd1_s]
        exact lpo_l (k - 1) (by omega) ⟨y + 1, m * V y, by omega, ey2, rfl, by omega, fun z => ⟨by rw [Nat.add_sub_cancel]; omega, by omega⟩, fun z => absurd z (by omega)⟩
  · rw [if_pos c1]
    exact lpo_r ⟨y, l, rfl, hI, Or.inl c1⟩
theorem BCI_col {V : Nat → Nat} {m n i y l : Nat} (h : BCI V m n i y l) (e : l ≠ 0 ∨ y = n + 1) : colT V m n i = decide (y ≤ n ∧ (y - 1) % 2 = 0) ∧ (y ≤ n → 1 ≤ y) := by
  by_cases c : y ≤ n
  · obtain ⟨h1, h2⟩ := h.2.1 c
    have y1 : 1 ≤ y := by
      rcases Nat.eq_zero_or_pos y with rfl | z
      · have : m * smV V 0 = 0 := Nat.mul_zero _
        omega
      · exact z
    refine ⟨?_, fun _ => y1⟩
    rw [col_in (k := y - 1) (by omega) h1 (by rw [Nat.sub_add_cancel y1]; omega)]
    exact decide_eq_decide.mpr (by omega)
  · refine ⟨?_, fun z => absurd z c⟩
    rw [col_out (h.2.2 (by have := h.1; omega)).2, decide_eq_false (by omega)]
theorem BCI_next {V : Nat → Nat} {m n i y l : Nat} (h : BCI V m n i y l) (e : l ≠ 0 ∨ y = n + 1) : BCI V m n (i + 1) y (l - 1) := by
  refine ⟨h.1, fun z => ?_, fun z => ?_⟩
  · have := h.2.1 z
    omega
  · have := h.2.2 z
    omega
/-- the columns of the bars -/
theorem s_barCols {M : im_M} {V : Nat → Nat} {m n : Nat} {a b c d : Int32} (hd : DFT M n V) (hm : m ≤ 50) (hb : m * smV V n ≤ 200000) : ed (lp (uc4 (f_MDotRows_bars_L67 a b c (nI m) d)) ((-1), 0, 0, M)) (fun R => fr (2 ^ 95) [] M R ∧ ∀ i, i < 5200 → im_i R 95 i = (if colT V m n i = true then 1 else 0)) := by
  refine lp_inv (fun k (t : Int32 × Int32 × Int32 × im_M) => ∃ y l i : Nat, i + k = 5200 ∧ t.1 = iZ ((y : Int) - 1) ∧ t.2.1 = nI l ∧ t.2.2.1 = nI i ∧ BCI V m n i y l ∧ fr (2 ^ 95) [] M t.2.2.2 ∧ ∀ j, j < i → im_i t.2.2.2 95 j = (if colT V m n j = true then 1 else 0)) (Q := fun R => fr (2 ^ 95) [] M R ∧ ∀ i, i < 5200 → im_i R 95 i = (if colT V m n i = true then 1 else 0)) ?_ (k := 5200) ⟨0, 0, 0, by omega, rfl, rfl, rfl, ⟨by omega, fun _ => ⟨Nat.zero_le _, (Nat.mul_zero m).symm⟩, fun z => absurd z (by omega)⟩, fr_refl, fun j hj => absurd hj (Nat.not_lt_zero _)⟩
  rintro k ⟨x26, x27, x28, M29⟩ ⟨y, l, i, hi, e1, e2, e3, hI, hf, hc⟩
  replace e1 : x26 = iZ ((y : Int) - 1) := e1
  replace e2 : x27 = nI l := e2
  replace e3 : x28 = nI i := e3
  replace hf : fr (2 ^ 95) [] M M29 := hf
  replace hc : ∀ j, j < i → im_i M29 95 j = (if colT V m n j = true then 1 else 0) := hc
  subst e1 e2 e3
  show ed (f_MDotRows_bars_L67 a b c (nI m) d (iZ ((y : Int) - 1)) (nI l) (nI i) M29) _
  unfold f_MDotRows_bars_L67
  have hd2 := DFT_fr hf (by decide +kernel) hd
  have k0 : ((5200 : Int32) ≤ nI i) = (5200 ≤ i) := nIl (x := 5200) (by omega) (by omega)
  simp only [k0]
  by_cases c1 : 5200 ≤ i
  · rw [if_pos c1]
    exact lpo_r ⟨hf, fun j hj => hc j (by omega)⟩
  · rw [if_neg c1]
    apply bd2_mk
    refine ed_mono (s_barStep hd2 hm hb hI) ?_
    rintro ⟨y50, y51⟩ ⟨y', l', e, hI2, hz⟩
    obtain ⟨rfl, rfl⟩ := Prod.mk.inj e
    obtain ⟨col, y1⟩ := BCI_col hI2 hz
    have l2 : l' ≤ 200000 := by
      by_cases z : y' ≤ n
      · have := (hI2.2.1 z).2
        have : m * smV V y' ≤ m * smV V n := Nat.mul_le_mul_left _ (smV_le z)
        omega
      · have := (hI2.2.2 (by have := hI2.1; omega)).1
        omega
    have n4 := hd.2.1
    have hy2 := hI2.1
    simp only [jn0]
    rw [hd2.1, iZ_nI (n := n)]
    have k1 : (iZ (n : Int) ≤ iZ ((y' : Int) - 1)) = ((n : Int) ≤ (y' : Int) - 1) := iZ_le (by omega) (by omega)
    simp only [k1]
    have el : (if nI l' ≤ 0 then (0 : Int32) else nI l' - 1) = nI (l' - 1) := by
      have : (nI l' ≤ 0) = (l' ≤ 0) := nIl (c := 0) (by omega) (by omega)
      simp only [this]
      by_cases z : l' ≤ 0
      · rw [if_pos z, show l' - 1 = 0 by omega]; rfl
      · rw [if_neg z, nI_m1 (by omega)]
    have tail : ∀ v : Int32, v = (if colT V m n i = true then 1 else 0) → ed (bd1 (some v) fun (y63 : Int32) => gd (inb (nI i) 5200) <| some (Sum.inl (iZ ((y' : Int) - 1), ((if nI l' ≤ 0 then 0 else (nI l' - 1)) : Int32), (nI i + 1), (im_setI M29 95 (Int32.toNatClampNeg (nI i)) (vp_nar .boolean y63))))) (lpo (fun k (t : Int32 × Int32 × Int32 × im_M) => ∃ y l i : Nat, i + k = 5200 ∧ t.1 = iZ ((y : Int) - 1) ∧ t.2.1 = nI l ∧ t.2.2.1 = nI i ∧ BCI V m n i y l ∧ fr (2 ^ 95) [] M t.2.2.2 ∧ ∀ j, j < i → im_i t.2.2.2 95 j = (if colT V m n j = true then 1 else 0)) (fun R => fr (2 ^ 95) [] M R ∧ ∀ i, i < 5200 → im_i R 95 i = (if colT V m n i = true then 1 else 0)) k) := by
      intro v hv
      rw [bd1_s, gd_pos (by rw [inb_nI (by omega)]; omega), nI_clamp (by omega), el]
      refine lpo_l (k - 1) (by omega) ⟨y', l' - 1, i + 1, by omega, rfl, rfl, nI_add i 1, BCI_next hI2 hz, fr_I (by decide) hf, fun j hj => ?_⟩
      show im_i (im_setI M29 95 i _) 95 j = _
      by_cases e : j = i
      · subst e
        rw [hit, hv]
        cases colT V m n j <;> rfl
      · rw [sk1 (fun z => e z.2)]
        exact hc j (by omega)
    by_cases c2 : (n : Int) ≤ (y' : Int) - 1
    · rw [if_pos c2]
      refine tail 0 ?_
      rw [col, decide_eq_false (by omega)]; rfl
    · rw [if_neg c2]
      have hy1 := y1 (by omega)
      have ey : iZ ((y' : Int) - 1) = nI (y' - 1) := by rw [iZ_nI]; congr 1; omega
      rw [ey, show (2 : Int32) = nI 2 from rfl, nI_rem (by omega) (by omega) (by omega), ← ey]
      have o0 : (nI ((y' - 1) % 2) = 0) = ((y' - 1) % 2 = 0) := nIe (c := 0) (by omega) (by omega)
      simp only [o0]
      by_cases c3 : (y' - 1) % 2 = 0
      · rw [if_neg (fun z => z c3)]
        refine tail 1 ?_
        rw [col, decide_eq_true (by omega)]; rfl
      · rw [if_pos c3]
        refine tail 0 ?_
        rw [col, decide_eq_false (by omega)]; rfl
theorem s_barsM {M : im_M} {W H q m hh n : Nat} {D : Nat → Nat → Bool} {wy : Int32} {X Y : Int} {V : Nat → Nat} (hD : DR M W H D) (hwy : im_i M 89 3 = wy) (hw2 : wy = 0 ∨ wy = 2) (hX : -4096 ≤ X ∧ X ≤ 4096) (hY : -4096 ≤ Y ∧ Y ≤ 4096) (hh1 : 1 ≤ hh ∧ hh ≤ 2048) (hm : 1 ≤ m ∧ m ≤ 50) (hq : q < 4) (hd : DFT M n V) (hb : m * smV V n ≤ 200000) : ed (f_MDotRows_bars (iZ X) (iZ Y) (nI hh) (nI m) (nI q) M) (DRW M W H D (qB q X Y (brT V m hh n)) wy) := by
  have nn : ∀ (v a b : Nat), a ≤ v ∧ v ≤ b → b ≤ 100000 → f_MDotRows_isNot (nI v) (nI a) (nI b) M = some 0 := fun v a b h1 h2 => by
    rw [iZ_nI (n := v), iZ_nI (n := a), iZ_nI (n := b)]
    exact isnZ (by omega) (by omega) (by omega)
  have r1 : f_MDotRows_isNot (nI hh) 1 2048 M = some 0 := nn hh 1 2048 (by omega) (by omega)
  have r2 : f_MDotRows_isNot (nI m) 1 50 M = some 0 := nn m 1 50 (by omega) (by omega)
  have r3 : f_MDotRows_isNot (nI q) 0 3 M = some 0 := nn q 0 3 (by omega) (by omega)
  unfold f_MDotRows_bars
  simp only [jn0]
  rw [noPlZ hX hY, bd1_s, if_neg (fun z => z rfl), r1, bd1_s, if_neg (fun z => z rfl), r2, bd1_s, if_neg (fun z => z rfl), r3, bd1_s, if_pos rfl, bd1_s]
  rw [if_pos (show im_i (im_setI M 89 0 0) 89 0 ≤ 0 by show (0 : Int32) ≤ 0; decide)]
  apply bd1_mk
  have f0 : fr 0 [(89, 0)] M (im_setI M 89 0 0) := fr_F (by decide) fr_refl
  refine ed_mono (s_barCols (DFT_fr f0 (by decide +kernel) hd) hm.2 hb) ?_
  rintro M74 ⟨f1, hcol⟩
  unfold f_MDotRows_at
  rw [bd1_s]
  generalize hN : im_setI (im_setI (im_setI (im_setI (im_setI (im_setI M74 89 10 (iZ X)) 89 11 (iZ Y)) 89 12 0) 89 13 (nI hh)) 89 14 0) 89 15 (nI q) = N
  have fN : fr (2 ^ 95) [(89, 0), (89, 10), (89, 11), (89, 12), (89, 13), (89, 14), (89, 15)] M N := by
    rw [← hN]
    exact fr_F (by decide) (fr_F (by decide) (fr_F (by decide) (fr_F (by decide) (fr_F (by decide) (fr_F (by decide) (fr_tr (fr_mono (by decide) (fun p hp => absurd hp (by simp)) f1) (fr_mono (by decide) (by decide) f0)))))))
  have n10 : im_i N 89 10 = iZ X := by rw [← hN]; rfl
  have n11 : im_i N 89 11 = iZ Y := by rw [← hN]; rfl
  have n13 : im_i N 89 13 = nI hh := by rw [← hN]; rfl
  have n15 : im_i N 89 15 = nI q := by rw [← hN]; rfl
  have n95 : ∀ i, im_i N 95 i = im_i M74 95 i := fun i => by rw [← hN]; rfl
  have qN : DR N W H D := DR_fr fN (by decide +kernel) hD
  apply bd2_mk
  refine ed_mono (s_draw (B := qB q X Y (brT V m hh n)) (fig := 4) qN ((fN.1 89 3 (by decide) (by decide)).trans hwy) hw2 (fun M' f' x y hx hy => ?_)) ?_
  · have := qN.1
    have k : ∀ j, im_i M' 89 j = im_i N 89 j := fun j => f'.1 89 j (by decide) (by simp)
    refine bl_steps ((k 10).trans n10) ((k 11).trans n11) ((k 15).trans n15) hq hX hY (by omega) (by omega) (by decide) (fun i j hi hj => ?_)
    simp only [jn0]
    rw [if_pos (by decide), if_neg (fun z => z trivial), gd_pos (by rw [inb_nI (by omega)]; omega), nI_clamp (by omega), f'.1 95 i (by decide) (by simp), n95, hcol i (by omega), k 13, n13]
    have l1 : (nI hh ≤ nI j) = (hh ≤ j) := nIl (by omega) (by omega)
    simp only [l1]
    unfold brT
    cases colT V m n i with
    | false => rfl
    | true =>
      rw [if_pos rfl, if_neg (show ¬ (1 : Int32) = 0 by decide), Bool.true_and]
      by_cases c : hh ≤ j
      · rw [if_pos c, decide_eq_false (by omega)]; rfl
      · rw [if_neg c, decide_eq_true (by omega)]; rfl
  · rintro ⟨x19, M19⟩ ⟨h1, h2, h3⟩
    exact ed_mk ⟨h1, h2, fr_tr (fr_mono (by decide) (by simp) h3) (fr_mono (by decide) (by decide) fN)⟩
