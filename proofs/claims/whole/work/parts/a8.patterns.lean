theorem nI_div {a b : Nat} (ha : a < 2147483648) (hb : 0 < b) (hb2 : b < 2147483648) : nI a / nI b = nI (a / b) := by
  rw [iZ_nI, iZ_nI, iZ_divN (by omega) hb hb2, iZ_nI]
  rfl
theorem nI_z {a : Nat} (h : 0 < a) (h2 : a < 2147483648) : ¬ nI a = 0 := fun z => by
  have : a = 0 := (nI_eq (b := 0) h2 (by omega)).mp z
  omega
/-- the widths as the class sees them, n of them -/
def WH (M : im_M) (u : Nat → Nat) (n : Nat) : Prop := n ≤ 511 ∧ (∀ i, i < n → 1 ≤ u i ∧ u i ≤ 512) ∧ im_i M 31 11 = nI n ∧ ∀ i, i < n → f_HBars_widthAt (nI i) M = some (nI (u i))
/-- and as the reference sees them -/
def WM (M : im_M) (u : Nat → Nat) (n : Nat) : Prop := n ≤ 511 ∧ (∀ i, i < n → 1 ≤ u i ∧ u i ≤ 512) ∧ im_i M 96 10 = nI n ∧ ∀ i, i < n → im_i M 103 i = nI (u i)
theorem s_sumH {M : im_M} {u : Nat → Nat} {n : Nat} (q : WH M u n) {a c : Nat} (h : a + c ≤ n) : f_HBars_sumOf (nI a) (nI c) M = some (nI (sm u a c)) := by
  have hn := q.1
  have : lp (uc2 (f_HBars_sumOf_L5 (nI a) (nI c) M)) (0, nI a) = some (nI (sm u a c)) := by
    refine lp_row (b := uc2 (f_HBars_sumOf_L5 (nI a) (nI c) M)) (fun k => (nI (sm u a k), nI (a + k))) c ?_ ?_
    · intro k hk
      show f_HBars_sumOf_L5 (nI a) (nI c) M (nI (sm u a k)) (nI (a + k)) = _
      unfold f_HBars_sumOf_L5
      rw [nI_add, if_neg (nI_ge (by omega) (by omega)), q.2.2.2 (a + k) (by omega), bd1_s, nI_add, nI_1]
      rfl
    · show f_HBars_sumOf_L5 (nI a) (nI c) M (nI (sm u a c)) (nI (a + c)) = _
      unfold f_HBars_sumOf_L5
      rw [nI_add, if_pos (nI_le (by omega) (by omega))]
  unfold f_HBars_sumOf
  rw [this]
  rfl
theorem s_sumM {M : im_M} {u : Nat → Nat} {n : Nat} (q : WM M u n) {a c : Nat} (h : a + c ≤ n) : f_MLineRows_sumOf (nI a) (nI c) M = some (nI (sm u a c)) := by
  have hn := q.1
  have : lp (uc2 (f_MLineRows_sumOf_L5 (nI a) (nI c) M)) (0, nI a) = some (nI (sm u a c)) := by
    refine lp_row (b := uc2 (f_MLineRows_sumOf_L5 (nI a) (nI c) M)) (fun k => (nI (sm u a k), nI (a + k))) c ?_ ?_
    · intro k hk
      show f_MLineRows_sumOf_L5 (nI a) (nI c) M (nI (sm u a k)) (nI (a + k)) = _
      unfold f_MLineRows_sumOf_L5
      rw [nI_add, if_neg (nI_ge (by omega) (by omega)), gd_pos (by rw [inb_nI (by omega)]; omega), nI_clamp (by omega), q.2.2.2 (a + k) (by omega), nI_add, nI_1]
      rfl
    · show f_MLineRows_sumOf_L5 (nI a) (nI c) M (nI (sm u a c)) (nI (a + c)) = _
      unfold f_MLineRows_sumOf_L5
      rw [nI_add, if_pos (nI_le (by omega) (by omega))]
  unfold f_MLineRows_sumOf
  rw [this]
  rfl
theorem nI_near {w m s : Nat} (hw : w ≤ 512) (hm : m ≤ 95) (hs : 1 ≤ s) (hs2 : s ≤ 262144) : ((2 : Int32) * nI w * nI m + nI s) / ((2 : Int32) * nI s) = nI ((2 * w * m + s) / (2 * s)) := by
  have h1 : 2 * w * m ≤ 2 * 512 * 95 := Nat.mul_le_mul (Nat.mul_le_mul (Nat.le_refl 2) hw) hm
  have e2 : (2 : Int32) = nI 2 := rfl
  rw [e2, nI_mul, nI_mul, nI_add, nI_mul, nI_div (by omega) (by omega) (by omega)]
theorem s_near {M : im_M} {w m s : Nat} (hw : w ≤ 512) (hm : m ≤ 95) (hs : 1 ≤ s) (hs2 : s ≤ 262144) : f_HBars_nearest (nI w) (nI m) (nI s) M = some (nI ((2 * w * m + s) / (2 * s))) := by
  unfold f_HBars_nearest
  have h1 : (0 : Int32) < nI s := nI_lt (a := 0) (by omega) (by omega)
  have h2 : ¬ ((2 : Int32) * nI s) = 0 := by
    have e2 : (2 : Int32) = nI 2 := rfl
    rw [e2, nI_mul]
    exact nI_z (by omega) (by omega)
  rw [if_pos h1, gd_pos h2, nI_near hw hm hs hs2]
theorem nr_le {u : Nat → Nat} {a m s k : Nat} (hw : u (a + k) ≤ 512) (hm : m ≤ 95) (hs : 1 ≤ s) : nr u a m s k ≤ 50000 := by
  have h1 : 2 * u (a + k) * m ≤ 2 * 512 * 95 := Nat.mul_le_mul (Nat.mul_le_mul (Nat.le_refl 2) hw) hm
  have h2 : nr u a m s k ≤ 2 * u (a + k) * m / 2 + 1 := by
    show (2 * u (a + k) * m + s) / (2 * s) ≤ _
    have h3 : (2 * u (a + k) * m + s) / (2 * s) = (2 * u (a + k) * m + s) / 2 / s := (Nat.div_div_eq_div_mul _ 2 s).symm
    generalize 2 * u (a + k) * m = z at *
    rw [Nat.div_le_iff_le_mul_add_pred (by omega)]
    have h4 : z / 2 * 1 ≤ z / 2 * s := Nat.mul_le_mul (Nat.le_refl _) hs
    rw [Nat.mul_assoc, Nat.mul_add, Nat.mul_one]
    generalize hz : z / 2 = y at *
    rw [Nat.mul_comm s y]
    generalize y * s = ys at *
    omega
  omega
/-- where the widths are summed up -/
theorem s_patH {M : im_M} {u : Nat → Nat} {n : Nat} (q : WH M u n) {a c m : Nat} (h : a + c ≤ n) (hc : 1 ≤ c) (hc7 : c ≤ 7) (hm : m ≤ 95) : f_HBars_patternAt (nI a) (nI c) (nI m) M = some (pv (nr u a m (sm u a c)) c) := by
  have hn := q.1
  have hs1 : c ≤ sm u a c := sm_ge c (fun k hk => (q.2.1 (a + k) (by omega)).1)
  have hs2 : sm u a c ≤ 512 * c := sm_le c (fun k hk => (q.2.1 (a + k) (by omega)).2)
  generalize hS : sm u a c = s at *
  have one : ∀ k, k < c → 1 ≤ nr u a m s k ∧ nr u a m s k ≤ 9 → f_HBars_patternAt_L14 (nI a) (nI c) (nI m) (nI s) M (nI (nm (nr u a m s) k)) (nI (a + k)) = some (.inl (nI (nm (nr u a m s) (k + 1)), nI (a + (k + 1)))) := by
    intro k hk hr
    unfold f_HBars_patternAt_L14
    have e2 : (10 : Int32) = nI 10 := rfl
    rw [nI_add, if_neg (nI_ge (by omega) (by omega)), q.2.2.2 (a + k) (by omega), bd1_s, s_near (q.2.1 (a + k) (by omega)).2 hm (by omega) (by omega), bd1_s]
    show (if nI (nr u a m s k) < 1 then _ else _) = _
    have h1 : ¬ nI (nr u a m s k) < 1 := Int32.not_lt.mpr (nI_le (a := 1) hr.1 (by omega))
    have h9 : nI (nr u a m s k) ≤ 9 := nI_le (b := 9) hr.2 (by omega)
    rw [if_neg h1]
    show (if nI (nr u a m s k) ≤ 9 then _ else _) = _
    rw [if_pos h9, nI_1, e2, nI_mul]
    show some (Sum.inl (nI (10 * nm (nr u a m s) k) + nI (nr u a m s k), nI (a + k + 1))) = _
    rw [nI_add]
    rfl
  have bad : ∀ k, k < c → ¬ (1 ≤ nr u a m s k ∧ nr u a m s k ≤ 9) → f_HBars_patternAt_L14 (nI a) (nI c) (nI m) (nI s) M (nI (nm (nr u a m s) k)) (nI (a + k)) = some (.inr (.inr (-1))) := by
    intro k hk hr
    have hz := nr_le (u := u) (a := a) (m := m) (s := s) (k := k) (q.2.1 (a + k) (by omega)).2 hm (by omega)
    unfold f_HBars_patternAt_L14
    rw [nI_add, if_neg (nI_ge (by omega) (by omega)), q.2.2.2 (a + k) (by omega), bd1_s, s_near (q.2.1 (a + k) (by omega)).2 hm (by omega) (by omega), bd1_s]
    show (if nI (nr u a m s k) < 1 then _ else _) = _
    by_cases h1 : nr u a m s k < 1
    · have h1' : nI (nr u a m s k) < 1 := nI_lt (b := 1) h1 (by omega)
      rw [if_pos h1']
    · have h1' : ¬ nI (nr u a m s k) < 1 := Int32.not_lt.mpr (nI_le (a := 1) (by omega) (by omega))
      rw [if_neg h1']
      show (if nI (nr u a m s k) ≤ 9 then _ else _) = _
      have h9 : ¬ nI (nr u a m s k) ≤ 9 := nI_ge (a := 9) (by omega) (by omega)
      rw [if_neg h9]
  unfold f_HBars_patternAt
  rw [s_sumH q h, bd1_s, hS]
  unfold pv
  by_cases g : ∀ k, k < c → 1 ≤ nr u a m s k ∧ nr u a m s k ≤ 9
  · have : lp (uc2 (f_HBars_patternAt_L14 (nI a) (nI c) (nI m) (nI s) M)) (0, nI a) = some (.inl (nI (nm (nr u a m s) c))) := by
      refine lp_row (b := uc2 (f_HBars_patternAt_L14 (nI a) (nI c) (nI m) (nI s) M)) (fun k => (nI (nm (nr u a m s) k), nI (a + k))) c (fun k hk => one k hk (g k hk)) ?_
      show f_HBars_patternAt_L14 (nI a) (nI c) (nI m) (nI s) M _ (nI (a + c)) = _
      unfold f_HBars_patternAt_L14
      rw [nI_add, if_pos (nI_le (by omega) (by omega))]
    rw [if_pos g, this]
    rfl
  · rw [if_neg g]
    cases e : fdp (fun k => ¬ (1 ≤ nr u a m s k ∧ nr u a m s k ≤ 9)) c with
    | none => exact absurd (fun k hk => Decidable.not_not.mp (fdp_none c e k hk)) g
    | some j =>
      obtain ⟨b1, b2, b3⟩ := fdp_some c j e
      have : lp (uc2 (f_HBars_patternAt_L14 (nI a) (nI c) (nI m) (nI s) M)) (0, nI a) = some (.inr (-1)) := by
        exact lp_row (b := uc2 (f_HBars_patternAt_L14 (nI a) (nI c) (nI m) (nI s) M)) (fun k => (nI (nm (nr u a m s) k), nI (a + k))) j (fun k hk => one k (by omega) (Decidable.not_not.mp (b3 k hk))) (bad j b1 b2)
      rw [this]
      rfl
theorem s_cntM {M : im_M} {u : Nat → Nat} {n : Nat} (q : WM M u n) {a c m s : Nat} (h : a + c ≤ n) (hm : m ≤ 95) (hs : 1 ≤ s) (hs2 : s ≤ 262144) : f_MLineRows_counts (nI a) (nI c) (nI s) (nI m) M = some (nI (nm (mn9 (nr u a m s)) c)) := by
  have hn := q.1
  have : lp (uc2 (f_MLineRows_counts_L6 (nI a) (nI c) (nI s) (nI m) M)) (0, nI a) = some (nI (nm (mn9 (nr u a m s)) c)) := by
    refine lp_row (b := uc2 (f_MLineRows_counts_L6 (nI a) (nI c) (nI s) (nI m) M)) (fun k => (nI (nm (mn9 (nr u a m s)) k), nI (a + k))) c ?_ ?_
    · intro k hk
      have hz := nr_le (u := u) (a := a) (m := m) (s := s) (k := k) (q.2.1 (a + k) (by omega)).2 hm hs
      show f_MLineRows_counts_L6 (nI a) (nI c) (nI s) (nI m) M _ (nI (a + k)) = _
      unfold f_MLineRows_counts_L6
      have h2 : ¬ ((2 : Int32) * nI s) = 0 := by
        have e2 : (2 : Int32) = nI 2 := rfl
        rw [e2, nI_mul]
        exact nI_z (by omega) (by omega)
      have e10 : (10 : Int32) = nI 10 := rfl
      rw [nI_add, if_neg (nI_ge (by omega) (by omega)), gd_pos (by rw [inb_nI (by omega)]; omega), gd_pos h2, nI_clamp (by omega), q.2.2.2 (a + k) (by omega), nI_near (q.2.1 (a + k) (by omega)).2 hm hs hs2, nI_1]
      have e9 : (if nI ((2 * u (a + k) * m + s) / (2 * s)) ≤ 9 then nI ((2 * u (a + k) * m + s) / (2 * s)) else 9 : Int32) = nI (mn9 (nr u a m s) k) := by
        show (if nI (nr u a m s k) ≤ 9 then nI (nr u a m s k) else 9 : Int32) = nI (mn9 (nr u a m s) k)
        unfold mn9
        by_cases c9 : nr u a m s k ≤ 9
        · rw [if_pos c9, if_pos (show nI (nr u a m s k) ≤ 9 from nI_le (b := 9) c9 (by omega))]
        · rw [if_neg c9, if_neg (show ¬ nI (nr u a m s k) ≤ 9 from nI_ge (a := 9) (by omega) (by omega))]
          rfl
      rw [e9, e10, nI_mul, nI_add]
      rfl
    · show f_MLineRows_counts_L6 (nI a) (nI c) (nI s) (nI m) M _ (nI (a + c)) = _
      unfold f_MLineRows_counts_L6
      rw [nI_add, if_pos (nI_le (by omega) (by omega))]
  unfold f_MLineRows_counts
  rw [this]
  rfl
theorem s_idx {M : im_M} {p : Int32} : f_HBars_indexOf p M = some (oI (fdp (fun i => xa_6 (nI i) = p) 10)) := by
  unfold f_HBars_indexOf
  refine lp_fdp ?_ ?_ ?_
  · intro i hi h
    unfold f_HBars_indexOf_L2
    rw [if_neg (show ¬ Int32.ofNat 10 ≤ nI i from nI_ge (b := 10) hi (by omega)), gd_pos (by rw [inb_nI (by omega)]; exact hi), if_neg (fun z => z h)]
  · intro i hi h
    unfold f_HBars_indexOf_L2
    rw [if_neg (show ¬ Int32.ofNat 10 ≤ nI i from nI_ge (b := 10) hi (by omega)), gd_pos (by rw [inb_nI (by omega)]; exact hi), if_pos h, nI_1]
  · rfl
theorem s_idx1 {M : im_M} {p : Int32} : f_HBars_indexOf_1 p M = some (oI (fdp (fun i => xa_5 (nI i) = p) 10)) := by
  unfold f_HBars_indexOf_1
  refine lp_fdp ?_ ?_ ?_
  · intro i hi h
    unfold f_HBars_indexOf_1_L2
    rw [if_neg (show ¬ Int32.ofNat 10 ≤ nI i from nI_ge (b := 10) hi (by omega)), gd_pos (by rw [inb_nI (by omega)]; exact hi), if_neg (fun z => z h)]
  · intro i hi h
    unfold f_HBars_indexOf_1_L2
    rw [if_neg (show ¬ Int32.ofNat 10 ≤ nI i from nI_ge (b := 10) hi (by omega)), gd_pos (by rw [inb_nI (by omega)]; exact hi), if_pos h, nI_1]
  · rfl
theorem s_idx2 {M : im_M} {p : Int32} : f_HBars_indexOf_2 p M = some (oI (fdp (fun i => xa_4 (nI i) = p) 10)) := by
  unfold f_HBars_indexOf_2
  refine lp_fdp ?_ ?_ ?_
  · intro i hi h
    unfold f_HBars_indexOf_2_L2
    rw [if_neg (show ¬ Int32.ofNat 10 ≤ nI i from nI_ge (b := 10) hi (by omega)), gd_pos (by rw [inb_nI (by omega)]; exact hi), if_neg (fun z => z h)]
  · intro i hi h
    unfold f_HBars_indexOf_2_L2
    rw [if_neg (show ¬ Int32.ofNat 10 ≤ nI i from nI_ge (b := 10) hi (by omega)), gd_pos (by rw [inb_nI (by omega)]; exact hi), if_pos h, nI_1]
  · rfl
theorem s_idx3 {M : im_M} {p : Int32} : f_HBars_indexOf_3 p M = some (oI (fdp (fun i => xa_3 (nI i) = p) 106)) := by
  unfold f_HBars_indexOf_3
  refine lp_fdp ?_ ?_ ?_
  · intro i hi h
    unfold f_HBars_indexOf_3_L2
    rw [if_neg (show ¬ Int32.ofNat 106 ≤ nI i from nI_ge (b := 106) hi (by omega)), gd_pos (by rw [inb_nI (by omega)]; exact hi), if_neg (fun z => z h)]
  · intro i hi h
    unfold f_HBars_indexOf_3_L2
    rw [if_neg (show ¬ Int32.ofNat 106 ≤ nI i from nI_ge (b := 106) hi (by omega)), gd_pos (by rw [inb_nI (by omega)]; exact hi), if_pos h, nI_1]
  · rfl
theorem s_plc {M : im_M} {p : Int32} : f_MLineRows_place p M = some (oI (fdp (fun i => im_i M 97 i = p) 106)) := by
  unfold f_MLineRows_place
  refine lp_fdp ?_ ?_ ?_
  · intro i hi h
    unfold f_MLineRows_place_L2
    have e : ¬ (106 : Int32) ≤ nI i := nI_ge (b := 106) hi (by omega)
    rw [if_neg e, gd_pos (by rw [inb_nI (by omega)]; exact hi), nI_clamp (by omega), if_neg (fun z => z h)]
  · intro i hi h
    unfold f_MLineRows_place_L2
    have e : ¬ (106 : Int32) ≤ nI i := nI_ge (b := 106) hi (by omega)
    rw [if_neg e, gd_pos (by rw [inb_nI (by omega)]; exact hi), nI_clamp (by omega), if_pos h, nI_1]
  · rfl
theorem s_plc1 {M : im_M} {p : Int32} : f_MLineRows_place_1 p M = some (oI (fdp (fun i => im_i M 98 i = p) 10)) := by
  unfold f_MLineRows_place_1
  refine lp_fdp ?_ ?_ ?_
  · intro i hi h
    unfold f_MLineRows_place_1_L2
    have e : ¬ (10 : Int32) ≤ nI i := nI_ge (b := 10) hi (by omega)
    rw [if_neg e, gd_pos (by rw [inb_nI (by omega)]; exact hi), nI_clamp (by omega), if_neg (fun z => z h)]
  · intro i hi h
    unfold f_MLineRows_place_1_L2
    have e : ¬ (10 : Int32) ≤ nI i := nI_ge (b := 10) hi (by omega)
    rw [if_neg e, gd_pos (by rw [inb_nI (by omega)]; exact hi), nI_clamp (by omega), if_pos h, nI_1]
  · rfl
theorem s_plc2 {M : im_M} {p : Int32} : f_MLineRows_place_2 p M = some (oI (fdp (fun i => im_i M 99 i = p) 10)) := by
  unfold f_MLineRows_place_2
  refine lp_fdp ?_ ?_ ?_
  · intro i hi h
    unfold f_MLineRows_place_2_L2
    have e : ¬ (10 : Int32) ≤ nI i := nI_ge (b := 10) hi (by omega)
    rw [if_neg e, gd_pos (by rw [inb_nI (by omega)]; exact hi), nI_clamp (by omega), if_neg (fun z => z h)]
  · intro i hi h
    unfold f_MLineRows_place_2_L2
    have e : ¬ (10 : Int32) ≤ nI i := nI_ge (b := 10) hi (by omega)
    rw [if_neg e, gd_pos (by rw [inb_nI (by omega)]; exact hi), nI_clamp (by omega), if_pos h, nI_1]
  · rfl
