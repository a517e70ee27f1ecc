/-! TEXTS -/
/-- the font's numbers -/
def FNT (s : Nat → Int32) (f wd hg gp : Nat) : Prop := f < 4 ∧ s (3 * f) = nI wd ∧ s (3 * f + 1) = nI hg ∧ s (3 * f + 2) = nI gp ∧ 1 ≤ wd ∧ wd ≤ 32 ∧ 1 ≤ hg ∧ hg ≤ 32 ∧ gp ≤ 32
def txC (C : Nat → Int32) (B : Nat → Nat) (f n r : Nat) : Int32 := C (8192 * f + 32 * B n + r)
def txT (C : Nat → Int32) (B : Nat → Nat) (f wd hg T p ps s : Nat) (i j : Nat) : Bool := decide (i / p / T < s ∧ i / p % T < wd ∧ j / ps < hg) && ib (txC C B f (i / p / T) (j / ps)) (wd - 1 - i / p % T)
def txL (C : Nat → Int32) (B : Nat → Nat) (f wd hg T p ps s n0 r0 : Nat) (i j : Nat) : Bool := txT C B f wd hg T p ps s i j && decide (i / p / T < n0 ∨ (i / p / T = n0 ∧ j / ps < r0))
theorem dm_eq {m T n c : Nat} (hT : 1 ≤ T) : (T * n ≤ m ∧ m - T * n < c ∧ c ≤ T) ↔ (m / T = n ∧ m % T < c ∧ c ≤ T) := by
  have d := Nat.div_add_mod m T
  have l := Nat.mod_lt m (show 0 < T by omega)
  constructor
  · rintro ⟨h1, h2, h3⟩
    have e : m / T = n := by
      rw [Nat.div_eq_iff (by omega)]
      rw [Nat.mul_comm] at h1 h2
      omega
    rw [e] at d
    exact ⟨e, by omega, h3⟩
  · rintro ⟨h1, h2, h3⟩
    rw [h1] at d
    exact ⟨by omega, by omega, h3⟩
theorem sub_div {i p m : Nat} (hp : 1 ≤ p) (h : p * m ≤ i) : (i - p * m) / p = i / p - m := by
  obtain ⟨t, rfl⟩ : ∃ t, i = p * m + t := ⟨i - p * m, by omega⟩
  rw [Nat.add_sub_cancel_left, Nat.mul_add_div (by omega), Nat.add_sub_cancel_left]
/-- one more row of a cell -/
theorem txL_row {C : Nat → Int32} {B : Nat → Nat} {f wd hg T p ps s n r i j : Nat} (hp : 1 ≤ p) (hps : 1 ≤ ps) (hT : wd ≤ T) (hw : 1 ≤ wd) (hn : n < s) (hr : r < hg) : (txL C B f wd hg T p ps s n r i j || rowT (txC C B f n r) wd (p * (T * n)) (ps * r) p ps wd i j) = txL C B f wd hg T p ps s n (r + 1) i j := by
  have rr : (ps * r ≤ j ∧ j < ps * r + ps) ↔ j / ps = r := by
    have := div_in (t := j) (p := ps) (a := r) (b := r + 1) hps
    rw [Nat.mul_add, Nat.mul_one] at this
    rw [this]
    omega
  have kk := dm_eq (m := i / p) (T := T) (n := n) (c := wd) (by omega)
  have ii : p * (T * n) ≤ i ↔ T * n ≤ i / p := by rw [Nat.le_div_iff_mul_le (by omega), Nat.mul_comm]
  unfold txL
  by_cases z : i / p / T = n ∧ i / p % T < wd ∧ j / ps = r
  · obtain ⟨z1, z2, z3⟩ := z
    have k2 := kk.mpr ⟨z1, z2, hT⟩
    have sd := sub_div (i := i) (p := p) (m := T * n) hp (ii.mpr k2.1)
    have md : i / p - T * n = i / p % T := by
      have d := Nat.div_add_mod (i / p) T
      rw [z1] at d
      omega
    have hrow : rowT (txC C B f n r) wd (p * (T * n)) (ps * r) p ps wd i j = ib (txC C B f n r) (wd - 1 - i / p % T) := by
      unfold rowT
      rw [sd, md, decide_eq_true ⟨(rr.mpr z3).1, (rr.mpr z3).2, ii.mpr k2.1, z2, z2⟩, Bool.true_and]
    have htx : txT C B f wd hg T p ps s i j = ib (txC C B f n r) (wd - 1 - i / p % T) := by
      unfold txT
      rw [z1, z3, decide_eq_true ⟨hn, z2, hr⟩, Bool.true_and]
    rw [hrow, htx, decide_eq_false (by omega), decide_eq_true (by omega), Bool.and_false, Bool.false_or, Bool.and_true]
  · have hrow : rowT (txC C B f n r) wd (p * (T * n)) (ps * r) p ps wd i j = false := by
      unfold rowT
      rw [decide_eq_false, Bool.false_and]
      rintro ⟨h1, h2, h3, h4, _⟩
      rw [sub_div hp h3] at h4
      have := kk.mp ⟨ii.mp h3, h4, hT⟩
      exact z ⟨this.1, this.2.1, rr.mp ⟨h1, h2⟩⟩
    rw [hrow, Bool.or_false]
    cases ht : txT C B f wd hg T p ps s i j with
    | false => rfl
    | true =>
      unfold txT at ht
      rw [Bool.and_eq_true] at ht
      have ht := of_decide_eq_true ht.1
      rw [Bool.true_and, Bool.true_and]
      refine decide_eq_decide.mpr ⟨fun y => by omega, fun y => ?_⟩
      rcases y with y | ⟨y1, y2⟩
      · exact Or.inl y
      · refine Or.inr ⟨y1, ?_⟩
        by_cases e : j / ps = r
        · exact absurd ⟨y1, ht.2.1, e⟩ z
        · omega
theorem txL_d {C : Nat → Int32} {B : Nat → Nat} {f wd hg T p ps s n r i j : Nat} (hp : 1 ≤ p) (hps : 1 ≤ ps) (hT : wd ≤ T) (hw : 1 ≤ wd) (h1 : ps * r ≤ j) (h2 : j < ps * r + ps) (h3 : p * (T * n) ≤ i) (h4 : (i - p * (T * n)) / p < wd) : txL C B f wd hg T p ps s n r i j = false := by
  have rr : j / ps = r := by
    have := (div_in (t := j) (p := ps) (a := r) (b := r + 1) hps).mp (by rw [Nat.mul_add, Nat.mul_one]; exact ⟨h1, h2⟩)
    omega
  have ii : T * n ≤ i / p := by rw [Nat.le_div_iff_mul_le (by omega), Nat.mul_comm]; exact h3
  rw [sub_div hp h3] at h4
  have := (dm_eq (m := i / p) (T := T) (n := n) (c := wd) (by omega)).mp ⟨ii, h4, hT⟩
  unfold txL
  rw [decide_eq_false (by omega), Bool.and_false]
theorem s_drawText {w : Bool} {M : im_M} {W H q k s f wd hg gp p ps : Nat} {D : Nat → Nat → Bool} {wy : Int32} {X Y : Int} {B : Nat → Nat} (h : CDS w M M W H D (fun _ _ => false) wy) (hp : PN M X Y q) (ho : OCl M k s B) (hf : FNT (im_i M 57) f wd hg gp) (e5 : im_i M 13 (14 * k + 5) = nI f) (e6 : im_i M 13 (14 * k + 6) = nI p) (e7 : im_i M 13 (14 * k + 7) = nI ps) (hp1 : 1 ≤ p ∧ p ≤ 10) (hps : 1 ≤ ps ∧ ps ≤ 10) : ed (f_HPen_drawText w (nI k) M) (fun R => CDS w M R W H D (qB q X Y (txT (im_i M 58) B f wd hg (wd + gp) p ps s)) wy) := by
  have hk := ho.1
  have hs := ho.2.1
  obtain ⟨f4, s0, s1, s2, w1, w2, g1, g2, gp2⟩ := hf
  have j0 : (3 : Int32) * nI f = nI (3 * f) := nI_m 3
  have j1 : nI (3 * f) + 1 = nI (3 * f + 1) := nI_add _ 1
  have j2 : nI (3 * f) + 2 = nI (3 * f + 2) := nI_add _ 2
  unfold f_HPen_drawText
  rw [show (5 : Int32) = nI 5 from rfl, s_value1 hk (by omega), bd1_s, e5, show (6 : Int32) = nI 6 from rfl, s_value1 hk (by omega), bd1_s, e6, show (7 : Int32) = nI 7 from rfl, s_value1 hk (by omega), bd1_s, e7, j0, j2, gd_pos (by rw [inb_nI (by omega)]; omega), gd_pos (by rw [inb_nI (by omega)]; omega), nI_clamp (by omega), nI_clamp (by omega), s0, s2, nI_add, nI_mul]
  have b0 : p * (wd + gp) ≤ 10 * 64 := Nat.mul_le_mul (by omega) (by omega)
  apply bd1_mk
  refine ed_mono (lp_inv (fun m (t : Int32 × im_M) => ∃ n : Nat, n + m = s ∧ t.1 = nI n ∧ CDS w M t.2 W H D (qB q X Y (txL (im_i M 58) B f wd hg (wd + gp) p ps s n 0)) wy) (Q := fun R => CDS w M R W H D (qB q X Y (txT (im_i M 58) B f wd hg (wd + gp) p ps s)) wy) ?_ (k := s) ⟨0, by omega, rfl, CDS_c h (fun x y _ _ => ?_)⟩) (fun R h => ed_mk h)
  · rintro m ⟨x11, M12⟩ ⟨n, hn, e1, hC⟩
    replace e1 : x11 = nI n := e1
    replace hC : CDS w M M12 W H D (qB q X Y (txL (im_i M 58) B f wd hg (wd + gp) p ps s n 0)) wy := hC
    subst e1
    have o12 := OCl_fr hC.2.2.2 (by decide +kernel) ho
    show ed (f_HPen_drawText_L56 w (nI k) (nI f) (nI p) (nI ps) (nI wd) (nI (p * (wd + gp))) (nI n) M12) _
    unfold f_HPen_drawText_L56
    rw [show (8 : Int32) = nI 8 from rfl, s_value1 hk (by omega), bd1_s, o12.2.2.1, if_nIl (by omega) (by omega)]
    by_cases c : s ≤ n
    · rw [if_pos c]
      obtain rfl : n = s := by omega
      refine lpo_r (CDS_q hC (fun i j => ?_))
      unfold txL
      cases ht : txT (im_i M 58) B f wd hg (wd + gp) p ps n i j with
      | false => rfl
      | true =>
        unfold txT at ht
        rw [Bool.and_eq_true] at ht
        have ht := of_decide_eq_true ht.1
        rw [Bool.true_and, decide_eq_true (Or.inl ht.1)]
    · have hB := (o12.2.2.2 n (by omega)).1
      have ec : ((nI f * 256) + nI (B n)) * 32 = nI (8192 * f + 32 * B n) := by
        rw [show (256 : Int32) = nI 256 from rfl, show (32 : Int32) = nI 32 from rfl, nI_mul, nI_add, nI_mul]
        congr 1
        omega
      rw [if_neg c, s_byteAt o12 (by omega), bd1_s, ec]
      apply bd1_mk
      refine ed_mono (lp_inv (fun m2 (t : Int32 × im_M) => ∃ r : Nat, r + m2 = hg ∧ t.1 = nI r ∧ CDS w M t.2 W H D (qB q X Y (txL (im_i M 58) B f wd hg (wd + gp) p ps s n r)) wy) (Q := fun R => CDS w M R W H D (qB q X Y (txL (im_i M 58) B f wd hg (wd + gp) p ps s n hg)) wy) ?_ (k := hg) ⟨0, by omega, rfl, hC⟩) ?_
      · rintro m2 ⟨x24, M25⟩ ⟨r, hr, e2, hC2⟩
        replace e2 : x24 = nI r := e2
        replace hC2 : CDS w M M25 W H D (qB q X Y (txL (im_i M 58) B f wd hg (wd + gp) p ps s n r)) wy := hC2
        subst e2
        show ed (f_HPen_drawText_L89 w (nI k) (nI f) (nI p) (nI ps) (nI wd) (nI (p * (wd + gp))) (nI n) (nI (8192 * f + 32 * B n)) (nI r) M25) _
        unfold f_HPen_drawText_L89
        have a57 : im_i M25 57 = im_i M 57 := fr_c hC2.2.2.2 57 (by decide) (by decide)
        have a58 : im_i M25 58 = im_i M 58 := fr_c hC2.2.2.2 58 (by decide) (by decide)
        rw [j0, j1, gd_pos (by rw [inb_nI (by omega)]; omega), nI_clamp (by omega), a57, s1, if_nIl (by omega) (by omega)]
        by_cases d : hg ≤ r
        · rw [if_pos d]
          obtain rfl : r = hg := by omega
          exact lpo_r hC2
        · have b1 : p * ((wd + gp) * n) ≤ 10 * (64 * 200) := Nat.mul_le_mul (by omega) (Nat.mul_le_mul (by omega) (by omega))
          have b2 : ps * r ≤ 10 * 32 := Nat.mul_le_mul (by omega) (by omega)
          rw [if_neg d, nI_add, gd_pos (by rw [inb_nI (by omega)]; omega), nI_clamp (by omega), a58, nI_mul, nI_mul, Nat.mul_assoc]
          apply bd1_mk
          refine ed_mono (s_cellRow (v := im_i M 58 (8192 * f + 32 * B n + r)) hC2 hp (by omega) (by omega) (by omega) hp1 hps (fun i j h1 h2 h3 h4 => txL_d hp1.1 hps.1 (by omega) w1 h1 h2 h3 h4)) ?_
          intro R hR
          refine lpo_l (m2 - 1) (by omega) ⟨r + 1, by omega, nI_add r 1, CDS_q hR (fun i j => ?_)⟩
          exact txL_row hp1.1 hps.1 (by omega) w1 (by omega) (by omega)
      · intro R hR
        refine lpo_l (m - 1) (by omega) ⟨n + 1, by omega, nI_add n 1, CDS_q hR (fun i j => ?_)⟩
        unfold txL
        cases ht : txT (im_i M 58) B f wd hg (wd + gp) p ps s i j with
        | false => rfl
        | true =>
          unfold txT at ht
          rw [Bool.and_eq_true] at ht
          have ht := of_decide_eq_true ht.1
          rw [Bool.true_and, Bool.true_and]
          refine decide_eq_decide.mpr ⟨fun y => ?_, fun y => ?_⟩
          · rcases y with y | y
            · exact Or.inl (Nat.lt_succ_of_lt y)
            · exact Or.inl (by rw [y.1]; exact Nat.lt_succ_self _)
          · rcases y with y | y
            · rcases Nat.lt_or_eq_of_le (Nat.le_of_lt_succ y) with u | u
              · exact Or.inl u
              · exact Or.inr ⟨u, ht.2.2⟩
            · exact absurd y.2 (Nat.not_lt_zero _)
  · unfold qB txL
    rw [decide_eq_false (p := alQ q X Y x y |>.toNat |> fun i => i / p / (wd + gp) < 0 ∨ (i / p / (wd + gp) = 0 ∧ (acQ q X Y x y).toNat / ps < 0)) (fun z => by
      rcases z with z | z
      · exact Nat.not_lt_zero _ z
      · exact Nat.not_lt_zero _ z.2), Bool.and_false, Bool.and_false]
