/-! CALLS: WIPE, FAULT, PLACE, LABEL, ORDER, DRAWN, CELL, GOT, DATA, READING -/
theorem fr0_refl {M : im_M} : fr0 M M := fr_refl
theorem fr0_tr {M M1 M2 : im_M} (h2 : fr0 M1 M2) (h1 : fr0 M M1) : fr0 M M2 := fr_tr h2 h1
theorem fr0_X {M : im_M} : fr0 M (im_noX M) := fr_refl
theorem fr0_o {M M1 : im_M} {v : Int64} (h : fr0 M M1) : fr0 M (im_setL M1 138 0 v) := fr_L (by decide) h
theorem fr0_69 {M M1 : im_M} {v : Int32} (h : fr0 M M1) : fr0 M (im_setI M1 69 0 v) := fr_F (by decide) h
theorem fr0_71 {M M1 : im_M} {v : Int32} (h : fr0 M M1) : fr0 M (im_setI M1 71 0 v) := fr_F (by decide) h
theorem fr0_89 {M M1 : im_M} {v : Int32} (h : fr0 M M1) : fr0 M (im_setI M1 89 0 v) := fr_F (by decide) h
theorem fr0_130 {M M1 : im_M} {v : Int32} (h : fr0 M M1) : fr0 M (im_setI M1 130 0 v) := fr_F (by decide) h
theorem gd_pos {α : Type} {c : Prop} [Decidable c] {x : Option α} (h : c) : gd c x = x := if_pos h
/-- what the law asks of the reference's answer: thrown, the answer beside the row's, and that all still holds -/
def ans (w : Bool) (k : Int32) (r : Int32 × im_M) : Prop := im_i r.2 69 0 = k ∧ (k = 0 → im_l r.2 138 0 = r.1.toInt64) ∧ RL w r.2
theorem c_wipe {w : Bool} {M : im_M} (q : RL w M) : ed (f_H_wipe M) (fun r => ed (f_M_wipe r.2) (fun s => r.1 = s.1 ∧ RL w s.2)) := by
  obtain ⟨⟨n, hn, e1, e2, e3⟩, q⟩ := q
  refine ⟨_, rfl, _, rfl, ?_, ?_⟩
  · show im_i M 1 1 = im_i M 69 2
    rw [e1, e2]
  · exact ⟨⟨0, by omega, rfl, rfl, fun k hk => absurd hk (by omega)⟩, q⟩
theorem c_fault {w : Bool} {M : im_M} (q : RL w M) : ed (f_H_fault M) (fun v => ed (f_M_fault M) (fun s => v = s.1 ∧ RL w s.2)) := by
  refine ⟨_, rfl, (im_i M 71 13, im_setI (im_setI M 69 0 0) 71 0 0), rfl, ?_, RL_0 (fr0_71 (fr0_69 fr0_refl)) q⟩
  exact q.2.2.1.1.symm
theorem c_place {w : Bool} {M : im_M} (q : RL w M) : ed (f_H_place M) (fun v => ed (f_M_place M) (fun s => v = s.1 ∧ RL w s.2)) := by
  refine ⟨_, rfl, (im_i M 71 14, im_setI (im_setI M 69 0 0) 71 0 0), rfl, ?_, RL_0 (fr0_71 (fr0_69 fr0_refl)) q⟩
  exact q.2.2.1.2.symm
theorem iz3 {p : Int32} (h1 : ¬ p < 0) {n : Nat} (h2 : p ≤ nI n) (hn : n < 2147483648) : ∃ a : Nat, p = nI a ∧ a ≤ n := by
  obtain ⟨z, e, z1, z2⟩ := iZ_of p
  subst e
  rw [iZ_n, iZ_lt (by omega) (by decide)] at h1
  rw [iZ_nI, iZ_le (by omega) (by omega)] at h2
  refine ⟨z.toNat, ?_, by omega⟩
  rw [iZ_nI, Int.toNat_of_nonneg (by omega)]
theorem iz3' {p : Int32} (h1 : ¬ p < 0) {n : Nat} (h2 : p < nI n) (hn : n < 2147483648) : ∃ a : Nat, p = nI a ∧ a < n := by
  obtain ⟨z, e, z1, z2⟩ := iZ_of p
  subst e
  rw [iZ_n, iZ_lt (by omega) (by decide)] at h1
  rw [iZ_nI, iZ_lt (by omega) (by omega)] at h2
  refine ⟨z.toNat, ?_, by omega⟩
  rw [iZ_nI, Int.toNat_of_nonneg (by omega)]
theorem nI_n {n : Nat} : (OfNat.ofNat n : Int32) = nI (OfNat.ofNat n) := rfl
theorem inb_nI {a n : Nat} (h : a < 2147483648) : inb (nI a) n = (a < n) := by
  rw [iZ_nI, iZ_inb (by omega)]
  apply propext
  omega
theorem c_label {w : Bool} {M M2 : im_M} {p0 p1 : Int32} (q : RL w M) (h1 : ¬ p1 < 0) (h2 : p1 ≤ 3) : ed (f_H_label p0 p1 M) (fun x => ∀ M2, fr0 M M2 → im_l M2 138 0 = x.toInt64 → ed (f_M_label p0 p1 M2) (ans w 0)) := by
  obtain ⟨n, hn, e1, e2, e3⟩ := q.2.2.2.1
  unfold f_H_label
  rw [if_neg h1, if_pos h2]
  simp only [jn0]
  have hm : ∀ M2, fr0 M M2 → RL w (im_setI (im_setI M2 71 0 0) 69 0 0) := fun M2 f => RL_0 (fr0_69 (fr0_71 f)) q
  by_cases h3 : p0 < 0
  · rw [if_pos h3]
    refine ⟨_, rfl, fun M2 f e => ⟨(-1, im_setI (im_setI M2 71 0 0) 69 0 0), ?_, rfl, fun _ => e, hm M2 f⟩⟩
    simp [f_M_label, f_MScriptRows_label, f_MScriptRows_thrown, h1, h2, h3, bd2, bd1, jn0, mi_I]
  · rw [if_neg h3]
    by_cases h4 : p0 < im_i M 15 4
    · rw [if_pos h4]
      obtain ⟨a, rfl, ha⟩ := iz3' h3 (by rw [e1] at h4; exact h4) (by omega)
      obtain ⟨b, rfl, hb⟩ := iz3 h1 (n := 3) h2 (by omega)
      have ei : (4 : Int32) * nI a + nI b = nI (4 * a + b) := by rw [nI_n, nI_mul, nI_add]
      have gi : inb ((4 : Int32) * nI a + nI b) 48 := by rw [ei, inb_nI (by omega)]; omega
      rw [gd_pos gi]
      refine ⟨_, rfl, fun M2 f e => ⟨(im_i M2 86 (4 * a + b), im_setI (im_setI M2 71 0 0) 69 0 0), ?_, rfl, fun _ => ?_, hm M2 f⟩⟩
      · have h5 : nI a < im_i M2 71 35 := by rw [f.1 71 35 rfl (by decide), e2]; exact nI_lt ha (by omega)
        have ec : ((4 : Int32) * nI a + nI b).toNatClampNeg = 4 * a + b := by rw [ei, nI_clamp (by omega)]
        simp [f_M_label, f_MScriptRows_label, f_MScriptRows_thrown, h1, h2, h3, h5, bd2, bd1, jn0, mi_I, gd_pos gi, ec]
      · show im_l M2 138 0 = (im_i M2 86 (4 * a + b)).toInt64
        rw [e, ei, nI_clamp (by omega), fr_c f 86 rfl (by decide), e3 _ (by omega)]
    · rw [if_neg h4]
      refine ⟨_, rfl, fun M2 f e => ⟨(-1, im_setI (im_setI M2 71 0 0) 69 0 0), ?_, rfl, fun _ => e, hm M2 f⟩⟩
      have h5 : ¬ p0 < im_i M2 71 35 := by rw [f.1 71 35 rfl (by decide), e2, ← e1]; exact h4
      simp [f_M_label, f_MScriptRows_label, f_MScriptRows_thrown, h1, h2, h3, h5, bd2, bd1, jn0, mi_I]
theorem n_label {w : Bool} {M : im_M} {p0 p1 : Int32} (q : RL w M) (h : ¬ (¬ p1 < 0 ∧ p1 ≤ 3)) : ed (f_M_label p0 p1 (im_noX M)) (ans w 1) := by
  refine ⟨(0, im_setI (im_setI (im_noX M) 71 0 1) 69 0 1), ?_, rfl, fun k => absurd k (by decide), RL_0 (fr0_69 (fr0_71 fr0_X)) q⟩
  by_cases h1 : p1 < 0
  · simp [f_M_label, f_MScriptRows_label, f_MScriptRows_thrown, h1, bd2, bd1, jn0, mi_I]
  · have h2 : ¬ p1 ≤ 3 := fun z => h ⟨h1, z⟩
    simp [f_M_label, f_MScriptRows_label, f_MScriptRows_thrown, h1, h2, bd2, bd1, jn0, mi_I]
theorem c_order {w : Bool} {M M2 : im_M} {p0 p1 : Int32} (q : RL w M) (h1 : ¬ p1 < 0) (h2 : p1 ≤ 8) (h3 : ¬ p0 < 0) (h4 : p0 < im_i M 11 3) : ed (f_H_order p0 p1 M) (fun x => ∀ M2, fr0 M M2 → im_l M2 138 0 = x.toInt64 → ed (f_M_order p0 p1 M2) (ans w 0)) := by
  obtain ⟨⟨n, hn, e1, e2, e3⟩, _⟩ := q.2.2.2.2.1
  obtain ⟨a, rfl, ha⟩ := iz3' h3 (by rw [e1] at h4; exact h4) (by omega)
  obtain ⟨b, rfl, hb⟩ := iz3 h1 (n := 8) h2 (by omega)
  have ei : nI a * (14 : Int32) + nI b = nI (14 * a + b) := by rw [nI_n, nI_mul, nI_add, Nat.mul_comm]
  have ej : (9 : Int32) * nI a + nI b = nI (9 * a + b) := by rw [nI_n, nI_mul, nI_add]
  have gi : inb (nI a * (14 : Int32) + nI b) 1680 := by rw [ei, inb_nI (by omega)]; omega
  have gj : inb ((9 : Int32) * nI a + nI b) 1080 := by rw [ej, inb_nI (by omega)]; omega
  refine ⟨im_i M 13 (14 * a + b), ?_, fun M2 f e => ⟨(im_i M2 87 (9 * a + b), im_setI (im_setI M2 71 0 0) 69 0 0), ?_, rfl, fun _ => ?_, RL_0 (fr0_69 (fr0_71 f)) q⟩⟩
  · have ec : (nI a * (14 : Int32) + nI b).toNatClampNeg = 14 * a + b := by rw [ei, nI_clamp (by omega)]
    simp [f_H_order, f_HOrders_value_1, h1, h2, h3, h4, bd1, gd_pos gi, ec]
  · have h5 : nI a < im_i M2 71 37 := by rw [f.1 71 37 rfl (by decide), e2]; exact nI_lt ha (by omega)
    have ec : ((9 : Int32) * nI a + nI b).toNatClampNeg = 9 * a + b := by rw [ej, nI_clamp (by omega)]
    simp [f_M_order, f_MScriptRows_order, f_MScriptRows_thrown, h1, h2, h3, h5, bd2, bd1, mi_I, gd_pos gj, ec]
  · show im_l M2 138 0 = (im_i M2 87 (9 * a + b)).toInt64
    rw [e, fr_c f 87 rfl (by decide), (e3 a ha).1 b (by omega)]
theorem n_order_0 {w : Bool} {M : im_M} {p0 p1 : Int32} (q : RL w M) (h : ¬ (¬ p1 < 0 ∧ p1 ≤ 8)) : ed (f_M_order p0 p1 (im_noX M)) (ans w 1) := by
  refine ⟨(0, im_setI (im_setI (im_noX M) 71 0 1) 69 0 1), ?_, rfl, fun k => absurd k (by decide), RL_0 (fr0_69 (fr0_71 fr0_X)) q⟩
  by_cases h1 : p1 < 0
  · simp [f_M_order, f_MScriptRows_order, f_MScriptRows_thrown, h1, bd2, bd1, mi_I]
  · have h2 : ¬ p1 ≤ 8 := fun z => h ⟨h1, z⟩
    simp [f_M_order, f_MScriptRows_order, f_MScriptRows_thrown, h1, h2, bd2, bd1, mi_I]
theorem n_order_1 {w : Bool} {M : im_M} {p0 p1 : Int32} (q : RL w M) (h1 : ¬ p1 < 0) (h2 : p1 ≤ 8) (h : ¬ (¬ p0 < 0 ∧ p0 < im_i M 11 3)) : ed (f_M_order p0 p1 (im_noX M)) (ans w 2) := by
  obtain ⟨⟨n, hn, e1, e2, e3⟩, _⟩ := q.2.2.2.2.1
  refine ⟨(0, im_setI (im_setI (im_noX M) 71 0 2) 69 0 2), ?_, rfl, fun k => absurd k (by decide), RL_0 (fr0_69 (fr0_71 fr0_X)) q⟩
  by_cases h3 : p0 < 0
  · simp [f_M_order, f_MScriptRows_order, f_MScriptRows_thrown, h1, h2, h3, bd2, bd1, mi_I]
  · have h5 : ¬ p0 < im_i (im_noX M) 71 37 := fun z => h ⟨h3, by
      have z2 : p0 < im_i M 71 37 := z
      rw [e2, ← e1] at z2
      exact z2⟩
    simp [f_M_order, f_MScriptRows_order, f_MScriptRows_thrown, h1, h2, h3, h5, bd2, bd1, mi_I]
theorem c_drawn {w : Bool} {M : im_M} {p0 : Int32} (q : RL w M) : ed (f_H_drawn p0 M) (fun v => ed (f_M_drawn p0 M) (fun s => v = s.1 ∧ RL w s.2)) := by
  obtain ⟨n, hn, e1, e2, e3⟩ := q.2.2.2.2.2.2.2.1.1
  have hm : RL w (im_setI M 69 0 0) := RL_0 (fr0_69 fr0_refl) q
  by_cases h3 : p0 < 0
  · exact ⟨-1, by simp [f_H_drawn, jn0, h3], (-1, im_setI M 69 0 0), by simp [f_M_drawn, jn0, h3], rfl, hm⟩
  · by_cases h4 : p0 < im_i M 0 9
    · obtain ⟨a, rfl, ha⟩ := iz3' h3 (by rw [e1] at h4; exact h4) (by omega)
      have gi : inb (nI a) 120 := by rw [inb_nI (by omega)]; omega
      have h5 : nI a < im_i M 69 9 := by rw [e2]; exact nI_lt ha (by omega)
      have ec : (nI a).toNatClampNeg = a := nI_clamp (by omega)
      refine ⟨im_i M 66 a, by simp [f_H_drawn, jn0, h3, h4, gd_pos gi, ec], (im_i M 136 a, im_setI M 69 0 0), by simp [f_M_drawn, jn0, h3, h5, gd_pos gi, ec, mi_I], ?_, hm⟩
      exact (e3 a ha).symm
    · have h5 : ¬ p0 < im_i M 69 9 := by rw [e2, ← e1]; exact h4
      exact ⟨-1, by simp [f_H_drawn, jn0, h3, h4], (-1, im_setI M 69 0 0), by simp [f_M_drawn, jn0, h3, h5, mi_I], rfl, hm⟩
theorem c_cell {w : Bool} {M : im_M} {p0 p1 p2 p3 : Int32} (q : RL w M) (h1 : ¬ p0 < 0) (h2 : ¬ 3 < p0) (h3 : ¬ p1 < 0) (h4 : p1 ≤ 255) (h5 : ¬ p2 < 0) (h6 : p2 < im_i M 57 (3 * p0 + 1).toNatClampNeg) : ed (f_H_cell p0 p1 p2 p3 M) (fun M1 => ed (f_M_cell p0 p1 p2 p3 M1) (fun r => im_i r 69 0 = 0 ∧ RL w r)) := by
  obtain ⟨f1, f2, f3⟩ := q.2.1
  obtain ⟨a, rfl, ha⟩ := iz3 h1 (n := 3) (Int32.not_lt.mp h2) (by omega)
  obtain ⟨b, rfl, hb⟩ := iz3 h3 (n := 255) h4 (by omega)
  have e1 : (3 : Int32) * nI a + 1 = nI (3 * a + 1) := by rw [nI_n, nI_n, nI_mul, nI_add]
  have c1 : ((3 : Int32) * nI a + 1).toNatClampNeg = 3 * a + 1 := by rw [e1, nI_clamp (by omega)]
  obtain ⟨x, y, z, _, fy, _, _, _, _, hy, _⟩ := f3 a (by omega)
  rw [c1] at h6
  obtain ⟨r, rfl, hr⟩ := iz3' h5 (by rw [fy] at h6; exact h6) (by omega)
  have g1 : inb ((3 : Int32) * nI a + 1) 12 := by rw [e1, inb_nI (by omega)]; omega
  have e2 : (nI a * 256 + nI b) * 32 + nI r = nI (8192 * a + 32 * b + r) := by
    rw [nI_n, nI_n, nI_mul, nI_add, nI_mul, nI_add]
    congr 1
    show (a * 256 + b) * 32 + r = _
    omega
  have e3 : (8192 : Int32) * nI a + (32 : Int32) * nI b + nI r = nI (8192 * a + 32 * b + r) := by
    rw [nI_n, nI_n, nI_mul, nI_mul, nI_add, nI_add]
  have g2 : inb ((nI a * 256 + nI b) * 32 + nI r) 32768 := by rw [e2, inb_nI (by omega)]; omega
  have g3 : inb ((8192 : Int32) * nI a + (32 : Int32) * nI b + nI r) 32768 := by rw [e3, inb_nI (by omega)]; omega
  have c2 : ((nI a * 256 + nI b) * 32 + nI r).toNatClampNeg = 8192 * a + 32 * b + r := by rw [e2, nI_clamp (by omega)]
  have c3 : ((8192 : Int32) * nI a + (32 : Int32) * nI b + nI r).toNatClampNeg = 8192 * a + 32 * b + r := by rw [e3, nI_clamp (by omega)]
  have h7 : nI r ≤ im_i M 93 (3 * a + 1) - 1 := by
    rw [f1 _ (by omega), fy, iZ_nI, iZ_nI, iZ_n, iZ_sub, iZ_le (by omega) (by omega)]
    omega
  have h8 : nI a ≤ 3 := Int32.not_lt.mp h2
  refine ⟨im_setI M 58 (8192 * a + 32 * b + r) p3, ?_, im_setI (im_setI (im_setI (im_setI M 58 (8192 * a + 32 * b + r) p3) 89 0 0) 94 (8192 * a + 32 * b + r) p3) 69 0 0, ?_, rfl, ?_⟩
  · simp [f_H_cell, f_HPen_rowsOf, f_HPen_newRow, h1, h2, h3, h4, h5, h6, bd1, gd_pos g1, gd_pos g2, c1, c2]
  · simp [f_M_cell, f_MDotRows_cell, f_MDotRows_isNot, f_MDotRows_thrown, h1, h8, h3, h4, h5, h7, bd1, jn0, gd_pos g1, gd_pos g3, c1, c3, mi_I]
  · refine ⟨q.1, ⟨f1, ?_, f3⟩, q.2.2⟩
    intro k hk
    show (if k = 8192 * a + 32 * b + r then p3 else im_i M 94 k) = (if k = 8192 * a + 32 * b + r then p3 else im_i M 58 k)
    rw [f2 k hk]
theorem n_cell_0 {w : Bool} {M : im_M} {p0 p1 p2 p3 : Int32} (q : RL w M) (h : ¬ (¬ p0 < 0 ∧ ¬ 3 < p0 ∧ ¬ p1 < 0 ∧ p1 ≤ 255)) : ed (f_M_cell p0 p1 p2 p3 (im_noX M)) (fun r => im_i r 69 0 = 1 ∧ RL w r) := by
  refine ⟨im_setI (im_setI (im_noX M) 89 0 1) 69 0 1, ?_, rfl, RL_0 (fr0_69 (fr0_89 fr0_X)) q⟩
  by_cases h1 : p0 < 0
  · simp [f_M_cell, f_MDotRows_cell, f_MDotRows_isNot, f_MDotRows_thrown, h1, bd1, jn0, mi_I]
  · by_cases h2 : p0 ≤ 3
    · by_cases h3 : p1 < 0
      · simp [f_M_cell, f_MDotRows_cell, f_MDotRows_isNot, f_MDotRows_thrown, h1, h2, h3, bd1, jn0, mi_I]
      · have h4 : ¬ p1 ≤ 255 := fun z => h ⟨h1, Int32.not_lt.mpr h2, h3, z⟩
        simp [f_M_cell, f_MDotRows_cell, f_MDotRows_isNot, f_MDotRows_thrown, h1, h2, h3, h4, bd1, jn0, mi_I]
    · simp [f_M_cell, f_MDotRows_cell, f_MDotRows_isNot, f_MDotRows_thrown, h1, h2, bd1, jn0, mi_I]
theorem n_cell_1 {w : Bool} {M : im_M} {a : Nat} {p1 p2 p3 : Int32} (q : RL w M) (ha : a ≤ 3) (h3 : ¬ p1 < 0) (h4 : p1 ≤ 255) (h : ¬ (¬ p2 < 0 ∧ p2 < im_i M 57 (3 * a + 1))) : ed (f_M_cell (nI a) p1 p2 p3 (im_noX M)) (fun r => im_i r 69 0 = 2 ∧ RL w r) := by
  obtain ⟨f1, f2, f3⟩ := q.2.1
  have e1 : (3 : Int32) * nI a + 1 = nI (3 * a + 1) := by rw [nI_n, nI_n, nI_mul, nI_add]
  have c1 : ((3 : Int32) * nI a + 1).toNatClampNeg = 3 * a + 1 := by rw [e1, nI_clamp (by omega)]
  obtain ⟨x, y, z, _, fy, _, _, _, _, hy, _⟩ := f3 a (by omega)
  have g1 : inb ((3 : Int32) * nI a + 1) 12 := by rw [e1, inb_nI (by omega)]; omega
  have h1 : ¬ nI a < 0 := nI_pos (by omega)
  have h8 : nI a ≤ 3 := nI_le (b := 3) ha (by decide)
  refine ⟨im_setI (im_setI (im_noX M) 89 0 2) 69 0 2, ?_, rfl, RL_0 (fr0_69 (fr0_89 fr0_X)) q⟩
  by_cases h5 : p2 < 0
  · simp [f_M_cell, f_MDotRows_cell, f_MDotRows_isNot, f_MDotRows_thrown, h1, h8, h3, h4, h5, bd1, jn0, gd_pos g1, c1, mi_I]
  · have h7 : ¬ p2 ≤ im_i (im_noX M) 93 (3 * a + 1) - 1 := by
      intro z
      apply h
      refine ⟨h5, ?_⟩
      have z2 : p2 ≤ im_i M 93 (3 * a + 1) - 1 := z
      obtain ⟨v, rfl, v1, v2⟩ := iZ_of p2
      rw [f1 _ (by omega), fy, iZ_nI, iZ_n, iZ_sub, iZ_le (by omega) (by omega)] at z2
      rw [fy, iZ_nI, iZ_lt (by omega) (by omega)]
      omega
    simp [f_M_cell, f_MDotRows_cell, f_MDotRows_isNot, f_MDotRows_thrown, h1, h8, h3, h4, h5, h7, bd1, jn0, gd_pos g1, c1, mi_I]
/-- terms one after another -/
def acc8 (g : Nat → Int64) : Nat → Int64
  | 0 => 0
  | k + 1 => acc8 g k ||| g k
theorem acc8_eq {g h : Nat → Int64} : ∀ n, (∀ k, k < n → g k = h k) → acc8 g n = acc8 h n := by
  intro n
  induction n with
  | zero => intro _; rfl
  | succ n ih =>
    intro e
    show acc8 g n ||| g n = acc8 h n ||| h n
    rw [ih (fun k hk => e k (by omega)), e n (by omega)]
theorem acc8_0 {g : Nat → Int64} {n : Nat} (h : g n = 0) : acc8 g (n + 1) = acc8 g n := by
  show acc8 g n ||| g n = _
  rw [h]
  exact Int64.or_zero
/-- where byte k of eight stands -/
def e8 (f : Nat → Int32) (a s : Nat) (z : Int) (k : Nat) : Int64 := if 0 ≤ z + (k : Int) ∧ z + (k : Int) < (s : Int) then Int32.toInt64 (f (a + (z + (k : Int)).toNat)) <<< (Int32.toInt64 ((8 : Int32) * nI k) &&& 63) else 0
theorem e8_a {z : Int} (h : -2147483648 ≤ z ∧ z < 2147483648) {k : Nat} (hk : k ≤ 8) : (iZ z).toInt64 + (nI k).toInt64 = lZ (z + (k : Int)) := by
  rw [iZ_nI, iZ_l h, iZ_l (by omega), lZ_add]
theorem e8_lo {z : Int} (h : -2147483648 ≤ z ∧ z < 2147483648) {k : Nat} (hk : k ≤ 8) : (lg_cmp (lZ (z + (k : Int))) 0 < 0) = (z + (k : Int) < 0) := by
  rw [lc_lt, lZ_n, lZ_lt (by omega) (by decide)]
theorem e8_hi {z : Int} (h : -2147483648 ≤ z ∧ z < 2147483648) {k s : Nat} (hk : k ≤ 8) (hs : s ≤ 3000) : (0 ≤ lg_cmp (lZ (z + (k : Int))) (nI s).toInt64) = ¬ (z + (k : Int) < (s : Int)) := by
  rw [lc_ge, iZ_nI, iZ_l (by omega), lZ_lt (by omega) (by omega)]
theorem e8_k {k : Nat} (hk : k < 8) : ¬ (8 : Int32) ≤ nI k := nI_ge (b := 8) hk (by decide)
theorem e8_8 : (8 : Int32) ≤ nI 8 := by decide
theorem eb_0 {M : im_M} {z : Int} {s : Nat} (h : -2147483648 ≤ z ∧ z < 2147483648) (hs : s ≤ 3000) : f_H_eightBytes 0 (nI s) (iZ z) M = some (acc8 (e8 (fun j => im_i M 68 j &&& 255) 0 s z) 8) := by
  unfold f_H_eightBytes
  have e : lp (uc2 (f_H_eightBytes_L6 0 (nI s) (iZ z) M)) (0, 0) = some (acc8 (e8 (fun j => im_i M 68 j &&& 255) 0 s z) 8) := by
    refine lp_row (fun k => (acc8 (e8 (fun j => im_i M 68 j &&& 255) 0 s z) k, nI k)) 8 (fun k hk => ?_) ?_
    · show f_H_eightBytes_L6 0 (nI s) (iZ z) M (acc8 _ k) (nI k) = _
      unfold f_H_eightBytes_L6
      rw [if_neg (e8_k hk), e8_a h (by omega)]
      simp only [e8_lo h (Nat.le_of_lt hk), e8_hi h (Nat.le_of_lt hk) hs, nI_1]
      by_cases h1 : z + (k : Int) < 0
      · rw [if_pos h1, acc8_0 (by unfold e8; rw [if_neg (by omega)])]; rfl
      · by_cases h2 : z + (k : Int) < (s : Int)
        · have ei : (0 : Int32) + (lZ (z + (k : Int))).toInt32 = nI (z + (k : Int)).toNat := by
            rw [lZ_i (by omega), iZ_n, iZ_add, iZ_nI, Int.toNat_of_nonneg (by omega)]
            congr 1
            show (0 : Int) + _ = _
            omega
          rw [if_neg h1, if_neg (by simp [h2]), ei, gd_pos (by rw [inb_nI (by omega)]; omega), nI_clamp (by omega)]
          show some (Sum.inl (acc8 _ k ||| _, nI (k + 1))) = some (Sum.inl (acc8 _ k ||| e8 _ 0 s z k, nI (k + 1)))
          unfold e8
          rw [if_pos ⟨by omega, h2⟩, Nat.zero_add]
        · rw [if_neg h1, if_pos h2, acc8_0 (by unfold e8; rw [if_neg (by omega)])]; rfl
    · show f_H_eightBytes_L6 0 (nI s) (iZ z) M (acc8 _ 8) (nI 8) = _
      unfold f_H_eightBytes_L6
      rw [if_pos e8_8]
  rw [e]; rfl
theorem eb_1 {M : im_M} {z : Int} {s a : Nat} (h : -2147483648 ≤ z ∧ z < 2147483648) (hs : s ≤ 200) (ha : a < 120) : f_H_eightBytes_1 (nI (200 * a)) (nI s) (iZ z) M = some (acc8 (e8 (fun j => im_i M 14 j &&& 255) (200 * a) s z) 8) := by
  unfold f_H_eightBytes_1
  have e : lp (uc2 (f_H_eightBytes_1_L6 (nI (200 * a)) (nI s) (iZ z) M)) (0, 0) = some (acc8 (e8 (fun j => im_i M 14 j &&& 255) (200 * a) s z) 8) := by
    refine lp_row (fun k => (acc8 (e8 (fun j => im_i M 14 j &&& 255) (200 * a) s z) k, nI k)) 8 (fun k hk => ?_) ?_
    · show f_H_eightBytes_1_L6 (nI (200 * a)) (nI s) (iZ z) M (acc8 _ k) (nI k) = _
      unfold f_H_eightBytes_1_L6
      rw [if_neg (e8_k hk), e8_a h (by omega)]
      simp only [e8_lo h (Nat.le_of_lt hk), e8_hi h (Nat.le_of_lt hk) (show s ≤ 3000 by omega), nI_1]
      by_cases h1 : z + (k : Int) < 0
      · rw [if_pos h1, acc8_0 (by unfold e8; rw [if_neg (by omega)])]; rfl
      · by_cases h2 : z + (k : Int) < (s : Int)
        · have ei : nI (200 * a) + (lZ (z + (k : Int))).toInt32 = nI (200 * a + (z + (k : Int)).toNat) := by
            rw [lZ_i (by omega), ← nI_add, iZ_nI (n := (z + (k : Int)).toNat), Int.toNat_of_nonneg (by omega)]
          rw [if_neg h1, if_neg (by simp [h2]), ei, gd_pos (by rw [inb_nI (by omega)]; omega), nI_clamp (by omega)]
          show some (Sum.inl (acc8 _ k ||| _, nI (k + 1))) = some (Sum.inl (acc8 _ k ||| e8 _ (200 * a) s z k, nI (k + 1)))
          unfold e8
          rw [if_pos ⟨by omega, h2⟩]
        · rw [if_neg h1, if_pos h2, acc8_0 (by unfold e8; rw [if_neg (by omega)])]; rfl
    · show f_H_eightBytes_1_L6 (nI (200 * a)) (nI s) (iZ z) M (acc8 _ 8) (nI 8) = _
      unfold f_H_eightBytes_1_L6
      rw [if_pos e8_8]
  rw [e]; rfl
theorem eb_g {M : im_M} {z : Int} {s : Nat} (h : -2147483648 ≤ z ∧ z < 2147483648) (hs : s ≤ 3000) (es : im_i M 69 12 = nI s) : f_M_got (iZ z) M = some (acc8 (e8 (im_i M 137) 0 s z) 8, im_setI M 69 0 0) := by
  unfold f_M_got
  have e : lp (uc2 (f_M_got_L10 (iZ z) (im_setI M 69 0 0))) (0, 0) = some (acc8 (e8 (im_i M 137) 0 s z) 8) := by
    refine lp_row (fun k => (acc8 (e8 (im_i M 137) 0 s z) k, nI k)) 8 (fun k hk => ?_) ?_
    · show f_M_got_L10 (iZ z) (im_setI M 69 0 0) (acc8 _ k) (nI k) = _
      unfold f_M_got_L10
      have es2 : im_i (im_setI M 69 0 0) 69 12 = nI s := es
      rw [if_neg (e8_k hk), e8_a h (by omega), es2]
      simp only [e8_lo h (Nat.le_of_lt hk), e8_hi h (Nat.le_of_lt hk) hs, nI_1, jn0]
      by_cases h1 : z + (k : Int) < 0
      · rw [if_pos h1, acc8_0 (by unfold e8; rw [if_neg (by omega)])]; rfl
      · by_cases h2 : z + (k : Int) < (s : Int)
        · have ei : (lZ (z + (k : Int))).toInt32 = nI (z + (k : Int)).toNat := by
            rw [lZ_i (by omega), iZ_nI, Int.toNat_of_nonneg (by omega)]
          rw [if_neg h1, if_neg (by simp [h2]), ei, gd_pos (by rw [inb_nI (by omega)]; omega), nI_clamp (by omega)]
          show some (Sum.inl (acc8 _ k ||| _, nI (k + 1))) = some (Sum.inl (acc8 _ k ||| e8 _ 0 s z k, nI (k + 1)))
          unfold e8
          rw [if_pos ⟨by omega, h2⟩, Nat.zero_add]
          rfl
        · rw [if_neg h1, if_pos h2, acc8_0 (by unfold e8; rw [if_neg (by omega)])]; rfl
    · show f_M_got_L10 (iZ z) (im_setI M 69 0 0) (acc8 _ 8) (nI 8) = _
      unfold f_M_got_L10
      rw [if_pos e8_8]
  rw [e]; rfl
theorem c_got {w : Bool} {M : im_M} {p0 : Int32} (q : RL w M) : ed (f_H_got p0 M) (fun v => ed (f_M_got p0 M) (fun s => v = s.1 ∧ RL w s.2)) := by
  obtain ⟨⟨n, hn, e1, e2, e3⟩, _⟩ := q.2.2.2.2.2.2.2.2.1
  obtain ⟨z, rfl, z1, z2⟩ := iZ_of p0
  refine ⟨acc8 (e8 (fun j => im_i M 68 j &&& 255) 0 n z) 8, ?_, _, eb_g ⟨z1, z2⟩ hn e2, ?_, RL_0 (fr0_69 fr0_refl) q⟩
  · unfold f_H_got
    rw [e1, eb_0 ⟨z1, z2⟩ hn]
    rfl
  · refine acc8_eq 8 (fun k _ => ?_)
    unfold e8
    by_cases h : 0 ≤ z + (k : Int) ∧ z + (k : Int) < (n : Int)
    · rw [if_pos h, if_pos h, e3 _ (by omega)]
    · rw [if_neg h, if_neg h]
theorem eb_d {M : im_M} {z : Int} {s a : Nat} (h : -2147483648 ≤ z ∧ z < 2147483648) (hs : s ≤ 200) (ha : a < 120) (et : im_i M 71 0 = 0) (es : im_i M 87 (9 * a + 8) = nI s) : lp (uc2 (f_MScriptRows_data_L26 (nI a) (iZ z) M)) (0, 0) = some (acc8 (e8 (im_i M 88) (200 * a) s z) 8) := by
  refine lp_row (fun k => (acc8 (e8 (im_i M 88) (200 * a) s z) k, nI k)) 8 (fun k hk => ?_) ?_
  · show f_MScriptRows_data_L26 (nI a) (iZ z) M (acc8 _ k) (nI k) = _
    unfold f_MScriptRows_data_L26
    have e9 : (9 : Int32) * nI a + 8 = nI (9 * a + 8) := by rw [nI_n, nI_n, nI_mul, nI_add]
    have c9 : ((9 : Int32) * nI a + 8).toNatClampNeg = 9 * a + 8 := by rw [e9, nI_clamp (by omega)]
    have g9 : inb ((9 : Int32) * nI a + 8) 1080 := by rw [e9, inb_nI (by omega)]; omega
    rw [if_neg (e8_k hk), if_neg (by simp [et]), e8_a h (by omega), c9, es]
    simp only [e8_lo h (Nat.le_of_lt hk), e8_hi h (Nat.le_of_lt hk) (show s ≤ 3000 by omega), nI_1, gd_pos g9]
    by_cases h1 : z + (k : Int) < 0
    · rw [if_pos h1, acc8_0 (by unfold e8; rw [if_neg (by omega)])]; rfl
    · by_cases h2 : z + (k : Int) < (s : Int)
      · have ei : (200 : Int32) * nI a + (lZ (z + (k : Int))).toInt32 = nI (200 * a + (z + (k : Int)).toNat) := by
          rw [lZ_i (by omega), nI_n, nI_mul, ← nI_add, iZ_nI (n := (z + (k : Int)).toNat), Int.toNat_of_nonneg (by omega)]
        rw [if_neg h1, if_neg (by simp [h2]), ei, gd_pos (by rw [inb_nI (by omega)]; omega), nI_clamp (by omega)]
        show some (Sum.inl (acc8 _ k ||| _, nI (k + 1))) = some (Sum.inl (acc8 _ k ||| e8 _ (200 * a) s z k, nI (k + 1)))
        unfold e8
        rw [if_pos ⟨by omega, h2⟩]
      · rw [if_neg h1, if_pos h2, acc8_0 (by unfold e8; rw [if_neg (by omega)])]; rfl
  · show f_MScriptRows_data_L26 (nI a) (iZ z) M (acc8 _ 8) (nI 8) = _
    unfold f_MScriptRows_data_L26
    rw [if_pos e8_8]
/-- as ans, of a long -/
def ansL (w : Bool) (k : Int32) (r : Int64 × im_M) : Prop := im_i r.2 69 0 = k ∧ (k = 0 → im_l r.2 138 0 = r.1) ∧ RL w r.2
theorem c_data {w : Bool} {M : im_M} {p0 p1 : Int32} (q : RL w M) (h3 : ¬ p0 < 0) (h4 : p0 < im_i M 11 3) : ed (f_H_data p0 p1 M) (fun x => ∀ M2, fr0 M M2 → im_l M2 138 0 = x → ed (f_M_data p0 p1 M2) (ansL w 0)) := by
  obtain ⟨⟨n, hn, e1, e2, e3⟩, _⟩ := q.2.2.2.2.1
  obtain ⟨a, rfl, ha⟩ := iz3' h3 (by rw [e1] at h4; exact h4) (by omega)
  obtain ⟨e4, s, hs, e5, e6⟩ := e3 a ha
  obtain ⟨z, rfl, z1, z2⟩ := iZ_of p1
  have e14 : nI a * (14 : Int32) + 8 = nI (14 * a + 8) := by rw [nI_n, nI_n, nI_mul, nI_add, Nat.mul_comm]
  have c14 : (nI a * (14 : Int32) + 8).toNatClampNeg = 14 * a + 8 := by rw [e14, nI_clamp (by omega)]
  have g14 : inb (nI a * (14 : Int32) + 8) 1680 := by rw [e14, inb_nI (by omega)]; omega
  have e200 : nI a * (200 : Int32) = nI (200 * a) := by rw [nI_n, nI_mul, Nat.mul_comm]
  refine ⟨acc8 (e8 (fun j => im_i M 14 j &&& 255) (200 * a) s z) 8, ?_, fun M2 f e => ⟨(acc8 (e8 (im_i M2 88) (200 * a) s z) 8, im_setI (im_setI M2 71 0 0) 69 0 0), ?_, rfl, fun _ => ?_, RL_0 (fr0_69 (fr0_71 f)) q⟩⟩
  · simp only [f_H_data, f_HOrders_value_1, h3, h4, if_true, if_false, gd_pos g14, c14, e5, e200, bd1, Option.bind, eb_1 ⟨z1, z2⟩ hs (show a < 120 by omega)]
  · have h5 : nI a < im_i M2 71 37 := by rw [f.1 71 37 rfl (by decide), e2]; exact nI_lt ha (by omega)
    have e9 : im_i (im_setI M2 71 0 0) 87 (9 * a + 8) = nI s := by
      show im_i M2 87 (9 * a + 8) = _
      rw [fr_c f 87 rfl (by decide), e4 8 (by omega), e5]
    unfold f_M_data f_MScriptRows_data f_MScriptRows_thrown
    rw [if_neg h3, if_pos h5, eb_d ⟨z1, z2⟩ hs (show a < 120 by omega) rfl e9]
    rfl
  · show im_l M2 138 0 = acc8 (e8 (im_i M2 88) (200 * a) s z) 8
    rw [e]
    refine acc8_eq 8 (fun k _ => ?_)
    unfold e8
    by_cases h : 0 ≤ z + (k : Int) ∧ z + (k : Int) < (s : Int)
    · rw [if_pos h, if_pos h, fr_c f 88 rfl (by decide), e6 _ (by omega)]
    · rw [if_neg h, if_neg h]
theorem n_data {w : Bool} {M : im_M} {p0 p1 : Int32} (q : RL w M) (h : ¬ (¬ p0 < 0 ∧ p0 < im_i M 11 3)) : ed (f_M_data p0 p1 (im_noX M)) (ansL w 1) := by
  obtain ⟨⟨n, hn, e1, e2, e3⟩, _⟩ := q.2.2.2.2.1
  refine ⟨(0, im_setI (im_setI (im_noX M) 71 0 1) 69 0 1), ?_, rfl, fun k => absurd k (by decide), RL_0 (fr0_69 (fr0_71 fr0_X)) q⟩
  have et : ((if p0 < 0 then 1 else (if p0 < (im_i (im_noX M) 71 37) then 0 else 1)) : Int32) = 1 := by
    by_cases h3 : p0 < 0
    · rw [if_pos h3]
    · rw [if_neg h3, if_neg]
      intro z
      have z2 : p0 < im_i M 71 37 := z
      rw [e2, ← e1] at z2
      exact h ⟨h3, z2⟩
  unfold f_M_data f_MScriptRows_data f_MScriptRows_thrown
  rw [et]
  have e : lp (uc2 (f_MScriptRows_data_L26 p0 p1 (im_setI (im_noX M) 71 0 1))) (0, 0) = some 0 := by
    refine lp_row (fun _ => (0, 0)) 0 (fun k hk => absurd hk (by omega)) ?_
    show f_MScriptRows_data_L26 p0 p1 (im_setI (im_noX M) 71 0 1) 0 0 = _
    unfold f_MScriptRows_data_L26
    rw [if_neg (by decide), if_pos (by simp [mi_I])]
  rw [e]
  rfl
theorem c_reading {w : Bool} {M : im_M} {p0 : Int32} (q : RL w M) (h1 : ¬ p0 < 0) (h2 : p0 ≤ 6) : ed (f_H_reading p0 M) (fun x => ∀ M2, fr0 M M2 → im_l M2 138 0 = x.toInt64 → ed (f_M_reading p0 M2) (ans w 0)) := by
  obtain ⟨_, g0, g6, g⟩ := q.2.2.2.2.2.2.2.2.1
  obtain ⟨a, rfl, ha⟩ := iz3 h1 (n := 6) h2 (by omega)
  have gi : inb (nI a) 7 := by rw [inb_nI (by omega)]; omega
  have ec : (nI a).toNatClampNeg = a := nI_clamp (by omega)
  refine ⟨im_i M 67 a, by simp [f_H_reading, h1, h2, gd_pos gi, ec], fun M2 f e => ?_⟩
  have k1 : im_i M2 69 10 = im_i M 69 10 := f.1 69 10 rfl (by decide)
  have k2 : im_i M2 108 31 = im_i M 108 31 := f.1 108 31 rfl (by decide)
  have k3 : im_i M2 96 15 = im_i M 96 15 := f.1 96 15 rfl (by decide)
  have k4 : im_i M2 108 32 = im_i M 108 32 := f.1 108 32 rfl (by decide)
  have k5 : im_i M2 129 = im_i M 129 := fr_c f 129 rfl (by decide)
  have f6 : fr0 M (im_setI M2 69 0 0) := fr0_69 f
  have f8 : fr0 M (im_setI (im_setI M2 69 0 0) 108 0 0) := fr_F (by decide) f6
  have f9 : fr0 M (im_setI (im_setI M2 69 0 0) 96 3 0) := fr_F (by decide) f6
  have hfin : ∀ (v : Int32) (N : im_M), f_M_reading (nI a) M2 = some (v, N) → v = im_i M 67 a → fr0 M N → im_i N 69 0 = 0 → im_l N 138 0 = im_l M2 138 0 → ed (f_M_reading (nI a) M2) (ans w 0) := by
    intro v N e1 e2 e3 e4 e5
    refine ⟨(v, N), e1, e4, fun _ => ?_, RL_0 e3 q⟩
    show im_l N 138 0 = v.toInt64
    rw [e5, e, e2]
  have hb : ¬ (-1 : Int32) = 0 := by decide
  have h10 : ¬ (1 : Int32) = 0 := by decide
  have h20 : ¬ (2 : Int32) = 0 := by decide
  have h11 : ¬ (1 : Int32) = -1 := by decide
  have h21 : ¬ (2 : Int32) = -1 := by decide
  have h01 : ¬ (0 : Int32) = -1 := by decide
  rcases (show a = 6 ∨ a = 0 ∨ a = 1 ∨ a = 2 ∨ a = 3 ∨ a = 4 ∨ a = 5 by omega) with rfl | rfl | rfl | rfl | rfl | rfl | rfl
  · refine hfin (im_i M 108 31) (im_setI (im_setI M2 69 0 0) 108 0 0) ?_ g6.symm f8 rfl rfl
    unfold f_M_reading f_MSquareRows_fault
    simp [nI, mi_I, bd2, k2]
  · refine hfin (im_i M 69 10) (im_setI M2 69 0 0) ?_ g0.symm f6 rfl rfl
    unfold f_M_reading
    simp [nI, mi_I, jn1, k1]
  · rcases g with ⟨gk, g1, g2, g3, g4, g5⟩ | ⟨gk, gg, g1, g2, g3, g4, g5⟩ | ⟨gk, g1, g2, g3, g4, g5, gb⟩
    · refine hfin (-1) (im_setI M2 69 0 0) ?_ g1.symm f6 rfl rfl
      unfold f_M_reading
      simp [nI, mi_I, jn1, k1, gk]
    · refine hfin (im_i M 129 0) (im_setI (im_setI M2 69 0 0) 108 0 0) ?_ g1.symm f8 rfl rfl
      have gi : inb (0 : Int32) 4 := by decide +kernel
      have gc : (0 : Int32).toNatClampNeg = 0 := by decide +kernel
      have z0 : ((if (0 : Int32) < 0 then 1 else (if (0 : Int32) ≤ 3 then 0 else 1)) : Int32) = 0 := by decide +kernel
      have e1 : f_MSquareRows_reading 0 (im_setI M2 69 0 0) = some (im_i M 129 0, im_setI (im_setI M2 69 0 0) 108 0 0) := by
        unfold f_MSquareRows_reading
        rw [z0, gd_pos gi, gc]
        simp [mi_I, k4, gg, k5]
      unfold f_M_reading
      simp [nI, mi_I, jn1, bd2, k1, gk, e1]
    · refine hfin (-1) (im_setI M2 69 0 0) ?_ g1.symm f6 rfl rfl
      unfold f_M_reading
      rcases gk with gk | gk <;> simp [nI, mi_I, jn1, k1, gk]
  · rcases g with ⟨gk, g1, g2, g3, g4, g5⟩ | ⟨gk, gg, g1, g2, g3, g4, g5⟩ | ⟨gk, g1, g2, g3, g4, g5, gb⟩
    · refine hfin (-1) (im_setI M2 69 0 0) ?_ g2.symm f6 rfl rfl
      unfold f_M_reading
      simp [nI, mi_I, jn1, k1, gk]
    · refine hfin (im_i M 129 1) (im_setI (im_setI M2 69 0 0) 108 0 0) ?_ g2.symm f8 rfl rfl
      have gi : inb (1 : Int32) 4 := by decide +kernel
      have gc : (1 : Int32).toNatClampNeg = 1 := by decide +kernel
      have z0 : ((if (1 : Int32) < 0 then 1 else (if (1 : Int32) ≤ 3 then 0 else 1)) : Int32) = 0 := by decide +kernel
      have e1 : f_MSquareRows_reading 1 (im_setI M2 69 0 0) = some (im_i M 129 1, im_setI (im_setI M2 69 0 0) 108 0 0) := by
        unfold f_MSquareRows_reading
        rw [z0, gd_pos gi, gc]
        simp [mi_I, k4, gg, k5]
      unfold f_M_reading
      simp [nI, mi_I, jn1, bd2, k1, gk, e1]
    · refine hfin (-1) (im_setI M2 69 0 0) ?_ g2.symm f6 rfl rfl
      unfold f_M_reading
      rcases gk with gk | gk <;> simp [nI, mi_I, jn1, k1, gk]
  · rcases g with ⟨gk, g1, g2, g3, g4, g5⟩ | ⟨gk, gg, g1, g2, g3, g4, g5⟩ | ⟨gk, g1, g2, g3, g4, g5, gb⟩
    · refine hfin (-1) (im_setI M2 69 0 0) ?_ g3.symm f6 rfl rfl
      unfold f_M_reading
      simp [nI, mi_I, jn1, k1, gk]
    · refine hfin (im_i M 129 2) (im_setI (im_setI M2 69 0 0) 108 0 0) ?_ g3.symm f8 rfl rfl
      have gi : inb (2 : Int32) 4 := by decide +kernel
      have gc : (2 : Int32).toNatClampNeg = 2 := by decide +kernel
      have z0 : ((if (2 : Int32) < 0 then 1 else (if (2 : Int32) ≤ 3 then 0 else 1)) : Int32) = 0 := by decide +kernel
      have e1 : f_MSquareRows_reading 2 (im_setI M2 69 0 0) = some (im_i M 129 2, im_setI (im_setI M2 69 0 0) 108 0 0) := by
        unfold f_MSquareRows_reading
        rw [z0, gd_pos gi, gc]
        simp [mi_I, k4, gg, k5]
      unfold f_M_reading
      simp [nI, mi_I, jn1, bd2, k1, gk, e1]
    · refine hfin (-1) (im_setI M2 69 0 0) ?_ g3.symm f6 rfl rfl
      unfold f_M_reading
      rcases gk with gk | gk <;> simp [nI, mi_I, jn1, k1, gk]
  · rcases g with ⟨gk, g1, g2, g3, g4, g5⟩ | ⟨gk, gg, g1, g2, g3, g4, g5⟩ | ⟨gk, g1, g2, g3, g4, g5, gb⟩
    · refine hfin (-1) (im_setI M2 69 0 0) ?_ g4.symm f6 rfl rfl
      unfold f_M_reading
      simp [nI, mi_I, jn1, k1, gk]
    · refine hfin (im_i M 129 3) (im_setI (im_setI M2 69 0 0) 108 0 0) ?_ g4.symm f8 rfl rfl
      have gi : inb (3 : Int32) 4 := by decide +kernel
      have gc : (3 : Int32).toNatClampNeg = 3 := by decide +kernel
      have z0 : ((if (3 : Int32) < 0 then 1 else (if (3 : Int32) ≤ 3 then 0 else 1)) : Int32) = 0 := by decide +kernel
      have e1 : f_MSquareRows_reading 3 (im_setI M2 69 0 0) = some (im_i M 129 3, im_setI (im_setI M2 69 0 0) 108 0 0) := by
        unfold f_MSquareRows_reading
        rw [z0, gd_pos gi, gc]
        simp [mi_I, k4, gg, k5]
      unfold f_M_reading
      simp [nI, mi_I, jn1, bd2, k1, gk, e1]
    · refine hfin (-1) (im_setI M2 69 0 0) ?_ g4.symm f6 rfl rfl
      unfold f_M_reading
      rcases gk with gk | gk <;> simp [nI, mi_I, jn1, k1, gk]
  · rcases g with ⟨gk, g1, g2, g3, g4, g5⟩ | ⟨gk, gg, g1, g2, g3, g4, g5⟩ | ⟨gk, g1, g2, g3, g4, g5, gb⟩
    · refine hfin (-1) (im_setI M2 69 0 0) ?_ g5.symm f6 rfl rfl
      unfold f_M_reading
      simp [nI, mi_I, jn1, k1, gk]
    · refine hfin (-1) (im_setI M2 69 0 0) ?_ g5.symm f6 rfl rfl
      unfold f_M_reading
      simp [nI, mi_I, jn1, k1, gk]
    · refine hfin (im_i M 96 15) (im_setI (im_setI M2 69 0 0) 96 3 0) ?_ g5.symm f9 rfl rfl
      have gg : (im_i (im_setI (im_setI M2 69 0 0) 96 3 0) 96 15 = 0 ∨ im_i (im_setI (im_setI M2 69 0 0) 96 3 0) 96 15 = 1) := by
        show im_i M2 96 15 = 0 ∨ im_i M2 96 15 = 1
        rw [k3]; exact gb
      have e1 : f_MLineRows_backwards (im_setI M2 69 0 0) = some (im_i M 96 15, im_setI (im_setI M2 69 0 0) 96 3 0) := by
        unfold f_MLineRows_backwards
        rw [gd_pos gg]
        simp [mi_I, k3]
      unfold f_M_reading
      rcases gk with gk | gk <;> rcases gb with gb | gb <;> simp [nI, mi_I, jn1, bd2, k1, gk, e1, gb]
theorem n_reading {w : Bool} {M : im_M} {p0 : Int32} (q : RL w M) (h : ¬ (¬ p0 < 0 ∧ p0 ≤ 6)) : ed (f_M_reading p0 (im_noX M)) (ans w 1) := by
  refine ⟨(0, im_setI (im_noX M) 69 0 1), ?_, rfl, fun k => absurd k (by decide), RL_0 (fr0_69 fr0_X) q⟩
  by_cases h1 : p0 < 0
  · simp [f_M_reading, h1, mi_I]
  · have h2 : ¬ p0 ≤ 6 := fun z => h ⟨h1, z⟩
    simp [f_M_reading, h1, h2, mi_I]
