def fgI (M : im_M) (m : Nat) (st : Int32 × im_M) : Prop := ∃ k, k + m = 6 ∧ st.1 = nI k ∧ (∀ j, j < k → im_i st.2 67 j = -1) ∧ im_i st.2 67 6 = im_i M 67 6 ∧ fr (2 ^ 67) [] M st.2
theorem s_forget {M : im_M} : ed (f_H_forgetReading M) (fun N => (∀ k, k < 6 → im_i N 67 k = -1) ∧ im_i N 67 6 = im_i M 67 6 ∧ im_i N 0 12 = 0 ∧ fr (2 ^ 67) [(0, 12)] M N) := by
  unfold f_H_forgetReading f_Arrays_fill_5
  have rc : f_Arrays_rangeCheck 7 0 6 M = some () := rfl
  apply bd1_mk
  rw [rc]
  show ed (bd1 (lp (uc2 (f_Arrays_fill_5_L10 6 (-1))) (0, M)) fun M7 => some M7) _
  apply bd1_mk
  have h0 : fgI M 6 (0, M) := ⟨0, by omega, rfl, fun j hj => absurd hj (by omega), rfl, fr_refl⟩
  refine ed_mono (lp_inv (fgI M) (Q := fun (N : im_M) => (∀ j, j < 6 → im_i N 67 j = -1) ∧ im_i N 67 6 = im_i M 67 6 ∧ fr (2 ^ 67) [] M N) ?_ h0) ?_
  · rintro m ⟨k', N⟩ ⟨k, b1, b2, b3, b4, b5⟩
    replace b2 : k' = nI k := b2
    replace b3 : ∀ j, j < k → im_i N 67 j = -1 := b3
    replace b4 : im_i N 67 6 = im_i M 67 6 := b4
    replace b5 : fr (2 ^ 67) [] M N := b5
    subst b2
    show ed (f_Arrays_fill_5_L10 6 (-1) (nI k) N) _
    unfold f_Arrays_fill_5_L10
    by_cases c : 6 ≤ k
    · rw [if_pos (show (6 : Int32) ≤ nI k from nI_le (a := 6) c (by omega))]
      exact lpo_r ⟨fun j hj => b3 j (by omega), b4, b5⟩
    · rw [if_neg (show ¬ (6 : Int32) ≤ nI k from nI_ge (b := 6) (by omega) (by omega)), gd_pos (by rw [inb_nI (by omega)]; omega), nI_clamp (by omega), nI_1]
      refine lpo_l (5 - k) (by omega) ⟨k + 1, by omega, rfl, ?_, ?_, fr_I (by decide) b5⟩
      · intro j hj
        show im_i (im_setI N 67 k (-1)) 67 j = -1
        by_cases cj : j = k
        · subst cj
          simp [mi_I]
        · rw [← b3 j (by omega)]
          simp [mi_I, cj]
      · show im_i (im_setI N 67 k (-1)) 67 6 = _
        rw [← b4]
        have : ¬ 6 = k := by omega
        simp [mi_I, this]
  · rintro N ⟨a1, a2, a3⟩
    refine ed_mk (ed_mk ⟨a1, a2, rfl, fr_F (by decide) (fr_mono (by decide) (by decide) a3)⟩)
def cnI (M : im_M) (t m : Nat) (st : Int32 × im_M) : Prop := ∃ k, k + m = t ∧ st.1 = nI k ∧ fr 0 [(89, 0)] M st.2
theorem s_countL {M : im_M} {W H x y t : Nat} {D : Nat → Nat → Bool} {v : Nat → Nat} {d : Int32} (dr : DR M W H D) (hrun : ∀ N, DR N W H D → ∀ k, k < t → f_MDotRows_run (nI x) (nI y) (nI k) d N = some (nI (v k), im_setI N 89 0 0)) (hend : ∀ N, DR N W H D → f_MDotRows_run (nI x) (nI y) (nI t) d N = some (-1, im_setI N 89 0 0)) (hv : ∀ k, k < t → 1 ≤ v k ∧ v k ≤ 512) (ht : t ≤ 512) : ed (lp (uc2 (f_M_bars_L53 (nI x) (nI y) d)) (0, M)) (fun r => r.1 = nI t ∧ fr 0 [(89, 0)] M r.2) := by
  have h0 : cnI M t t (0, M) := ⟨0, by omega, rfl, fr_refl⟩
  refine lp_inv (cnI M t) ?_ h0
  rintro m ⟨k', N⟩ ⟨k, b1, b2, b3⟩
  replace b2 : k' = nI k := b2
  replace b3 : fr 0 [(89, 0)] M N := b3
  subst b2
  show ed (f_M_bars_L53 (nI x) (nI y) d (nI k) N) _
  unfold f_M_bars_L53
  have drN := DR_fr b3 (by decide +kernel) dr
  by_cases c : k < t
  · have hvk := hv k c
    rw [hrun N drN k c, bd2_s, if_neg (show ¬ nI (v k) ≤ 0 from nI_ge (a := 0) (by omega) (by omega)), nI_1]
    exact lpo_l (t - (k + 1)) (by omega) ⟨k + 1, by omega, rfl, fr_F (by decide) b3⟩
  · have : k = t := by omega
    subst this
    rw [hend N drN, bd2_s, if_pos (by decide)]
    exact lpo_r ⟨rfl, fr_F (by decide) b3⟩
theorem c_bars {w : Bool} {M : im_M} {p0 p1 d : Int32} (q : RL w M) (h1 : f_HSheet_has p0 p1 M = some 1) : ed (f_H_bars w p0 p1 d M) (fun r => ed (f_M_bars p0 p1 d (im_setL r.2 138 0 r.1.toInt64)) (ans w 0)) := by
  obtain ⟨W, H, D, dh, dr⟩ := QD_H q
  have hW := dh.1
  obtain ⟨x, rfl, x1, x2⟩ := iZ_of p0
  obtain ⟨y, rfl, y1, y2⟩ := iZ_of p1
  have on : 0 ≤ x ∧ x < (W : Int) ∧ 0 ≤ y ∧ y < (H : Int) := by
    rw [s_has dh ⟨x1, x2⟩ ⟨y1, y2⟩] at h1
    by_cases c : 0 ≤ x ∧ x < (W : Int) ∧ 0 ≤ y ∧ y < (H : Int)
    · exact c
    · rw [if_neg c] at h1
      exact absurd (Option.some.inj h1) (by decide)
  obtain ⟨X, rfl⟩ : ∃ X : Nat, x = (X : Int) := ⟨x.toNat, by omega⟩
  obtain ⟨Y, rfl⟩ : ∃ Y : Nat, y = (Y : Int) := ⟨y.toNat, by omega⟩
  have ex : iZ (X : Int) = nI X := iZ_nI.symm
  have ey : iZ (Y : Int) = nI Y := iZ_nI.symm
  have tabs := q.2.2.2.2.2.2.2.2.2
  obtain ⟨_, g0, g6, _⟩ := q.2.2.2.2.2.2.2.2.1
  unfold f_H_bars
  rw [h1, bd1_s, if_pos (by decide)]
  apply bd1_mk
  refine ed_mono s_forget ?_
  rintro M2 ⟨m1, m2, m3, m4⟩
  -- the reference up to where it looks at the dot
  have head : ∀ (N : im_M) (v : Int64), fr (2 ^ 32 ||| 2 ^ 36 ||| 2 ^ 37 ||| 2 ^ 67 ||| 2 ^ 68) [(0, 12), (31, 3), (31, 4), (31, 9), (31, 11), (31, 12)] M N → ∀ (P : Int32 × im_M → Prop), (∀ M3, fr (2 ^ 32 ||| 2 ^ 36 ||| 2 ^ 37 ||| 2 ^ 67 ||| 2 ^ 68 ||| 2 ^ 138) [(0, 12), (31, 3), (31, 4), (31, 9), (31, 11), (31, 12), (69, 0), (69, 10), (69, 12), (71, 0), (89, 0), (96, 3), (108, 0), (130, 0)] M M3 → fr 0 [(69, 0), (69, 10), (69, 12), (71, 0), (89, 0), (96, 3), (108, 0), (130, 0)] (im_setL N 138 0 v) M3 → im_i M3 69 0 = 0 → im_i M3 69 10 = -1 → im_i M3 69 12 = 0 → ed (if ¬ (if D X Y = true then 1 else 0 : Int32) = 0 then bd2 (lp (uc2 (f_M_bars_L53 (nI X) (nI Y) d)) (0, M3)) fun (y11 : Int32) (M12 : im_M) => bs1 (lp (uc2 (f_M_bars_L92 (nI X) (nI Y) d)) (((if ¬ (y11 - y11 / 2 * 2) = 0 then y11 else (y11 - 1)) : Int32), M12)) (fun (M42 : im_M) => some ((-1), M42)) (fun t => some t) else some ((-1), M3)) P) → ed (f_M_bars (nI X) (nI Y) d (im_setL N 138 0 v)) P := by
    intro N v fN P hP
    have fL : fr (2 ^ 32 ||| 2 ^ 36 ||| 2 ^ 37 ||| 2 ^ 67 ||| 2 ^ 68 ||| 2 ^ 138) [(0, 12), (31, 3), (31, 4), (31, 9), (31, 11), (31, 12), (69, 0), (69, 10), (69, 12), (71, 0), (89, 0), (96, 3), (108, 0), (130, 0)] M (im_setL N 138 0 v) := fr_L (by decide) (fr_mono (by decide) (by decide) fN)
    have dr3 : DR (im_setL N 138 0 v) W H D := DR_fr fL (by decide +kernel) dr
    unfold f_M_bars
    apply bd2_mk
    have e1 : (nI X).toInt64 = lZ (X : Int) := by rw [iZ_nI, iZ_l (by omega)]
    have e2 : (nI Y).toInt64 = lZ (Y : Int) := by rw [iZ_nI, iZ_l (by omega)]
    rw [e1, e2]
    refine ed_mono (s_isOn dr3 (a := (X : Int)) (b := (Y : Int)) (by omega) (by omega)) ?_
    rintro ⟨t, M4⟩ ⟨ht, f4⟩
    replace ht : t = if 0 ≤ (X : Int) ∧ (X : Int) < (W : Int) ∧ 0 ≤ (Y : Int) ∧ (Y : Int) < (H : Int) then 1 else 0 := ht
    replace f4 : fr1 (im_setL N 138 0 v) M4 := f4
    rw [if_pos on] at ht
    subst ht
    have z1 : ((if (1 : Int32) = 0 then 1 else 0) : Int32) = 0 := by decide
    show ed (if im_i (im_setI M4 69 0 (if (1 : Int32) = 0 then 1 else 0)) 69 0 ≤ 0 then _ else _) _
    rw [z1, if_pos (by show (0 : Int32) ≤ 0; decide)]
    apply bd2_mk
    have f5 : fr 0 [(69, 0), (69, 10), (69, 12), (71, 0), (89, 0), (96, 3), (108, 0), (130, 0)] (im_setL N 138 0 v) (im_setI (im_setI (im_setI M4 69 0 0) 69 10 (-1)) 69 12 0) := fr_F (by decide) (fr_F (by decide) (fr_F (by decide) (fr_mono (by decide) (by decide) f4)))
    have dr5 : DR (im_setI (im_setI (im_setI M4 69 0 0) 69 10 (-1)) 69 12 0) W H D := DR_fr f5 (by decide +kernel) dr3
    rw [iZ_nI, iZ_nI]
    obtain ⟨⟨t, M3⟩, er, ht, _⟩ := s_isDark dr5 (x := X) (y := Y) (by omega) (by omega)
    have f6 : fr 0 [(89, 0)] (im_setI (im_setI (im_setI M4 69 0 0) 69 10 (-1)) 69 12 0) M3 := f_M_isDark_fr er
    refine ⟨_, er, ?_⟩
    replace ht : t = if D X Y = true then 1 else 0 := ht
    subst ht
    have f7 : fr 0 [(69, 0), (69, 10), (69, 12), (71, 0), (89, 0), (96, 3), (108, 0), (130, 0)] (im_setL N 138 0 v) M3 := fr_tr (fr_mono (by decide) (by decide) f6) f5
    rw [← iZ_nI, ← iZ_nI]
    refine hP M3 (fr_tr (fr_mono (by decide) (by decide) f7) fL) f7 ?_ ?_ ?_
    · have : im_i M3 69 0 = im_i (im_setI (im_setI (im_setI M4 69 0 0) 69 10 (-1)) 69 12 0) 69 0 := f6.1 69 0 (by decide) (by decide)
      rw [this]
      rfl
    · have : im_i M3 69 10 = im_i (im_setI (im_setI (im_setI M4 69 0 0) 69 10 (-1)) 69 12 0) 69 10 := f6.1 69 10 (by decide) (by decide)
      rw [this]
      rfl
    · have : im_i M3 69 12 = im_i (im_setI (im_setI (im_setI M4 69 0 0) 69 10 (-1)) 69 12 0) 69 12 := f6.1 69 12 (by decide) (by decide)
      rw [this]
      rfl
  have flt : ∀ N, fr (2 ^ 32 ||| 2 ^ 36 ||| 2 ^ 37 ||| 2 ^ 67 ||| 2 ^ 68 ||| 2 ^ 103 ||| 2 ^ 104 ||| 2 ^ 105 ||| 2 ^ 106 ||| 2 ^ 107 ||| 2 ^ 137 ||| 2 ^ 138) [(0, 12), (31, 3), (31, 4), (31, 9), (31, 11), (31, 12), (69, 0), (69, 10), (69, 12), (71, 0), (89, 0), (96, 3), (96, 10), (96, 14), (96, 15), (96, 17), (108, 0), (130, 0)] M N → im_i N 108 31 = im_i M 108 31 := fun N f => f.1 108 31 (by decide) (by decide)
  -- nothing was read
  have none : ∀ N, fr (2 ^ 32 ||| 2 ^ 36 ||| 2 ^ 37 ||| 2 ^ 67 ||| 2 ^ 68 ||| 2 ^ 103 ||| 2 ^ 104 ||| 2 ^ 105 ||| 2 ^ 106 ||| 2 ^ 107 ||| 2 ^ 137 ||| 2 ^ 138) [(0, 12), (31, 3), (31, 4), (31, 9), (31, 11), (31, 12), (69, 0), (69, 10), (69, 12), (71, 0), (89, 0), (96, 3), (96, 10), (96, 14), (96, 15), (96, 17), (108, 0), (130, 0)] M N → im_i N 67 = im_i M2 67 → im_i N 0 12 = 0 → im_i N 69 10 = -1 → im_i N 69 12 = 0 → RL w N := by
    intro N f a1 a2 a3 a4
    refine RL_G f ?_ q
    unfold QG
    rw [a1, a2, a3, a4, flt N f]
    exact ⟨⟨0, by omega, rfl, rfl, fun k hk => absurd hk (by omega)⟩, m1 0 (by omega), m2.trans g6, Or.inl ⟨rfl, m1 1 (by omega), m1 2 (by omega), m1 3 (by omega), m1 4 (by omega), m1 5 (by omega)⟩⟩
  have dh2 : DH w M2 W H D := DH_fr m4 (by decide +kernel) dh
  rw [ex, ey, s_dark dh2 (by omega) (by omega), bd1_s]
  by_cases dk : D X Y = true
  · rw [if_pos dk, if_pos (by decide)]
    apply bd2_mk
    refine ed_mono (s_takeRuns dh2 (x := X) (y := Y) (by omega) (by omega) d) ?_
    rintro ⟨cnt, M4⟩ ⟨c, hc, e1, e2, f4⟩
    replace e1 : cnt = nI (rr c ((if d = 0 then W - X else H - Y) - 1) + 1) := e1
    replace e2 : ∀ j, j ≤ rr c ((if d = 0 then W - X else H - Y) - 1) → im_i M4 32 j = nI (rc c j (if d = 0 then W - X else H - Y)) := e2
    replace f4 : fr (2 ^ 32) [] M2 M4 := f4
    subst e1
    obtain ⟨len, hlen⟩ : ∃ len : Nat, len = if d = 0 then W - X else H - Y := ⟨_, rfl⟩
    rw [← hlen] at e2 ⊢
    have hl : 1 ≤ len ∧ len ≤ 512 := by rw [hlen]; split <;> omega
    have hr := rr_le (c := c) (len - 1)
    obtain ⟨t, ht⟩ : ∃ t, t = rr c (len - 1) + 1 := ⟨_, rfl⟩
    obtain ⟨v, hv⟩ : ∃ v : Nat → Nat, v = fun j => rc c j len := ⟨_, rfl⟩
    have vb : ∀ k, k < t → 1 ≤ v k ∧ v k ≤ 512 := by
      intro k hk
      have h5 : 1 ≤ rc c k len := by
        have := rc_pos (c := c) (j := k) (len - 1) (by omega)
        rw [show len - 1 + 1 = len by omega] at this
        exact this
      have h6 := rc_le (c := c) (j := k) len
      rw [hv]
      exact ⟨h5, by show rc c k len ≤ 512; omega⟩
    have v32 : ∀ i, i < t → im_i M4 32 i = nI (v i) := by
      intro i hi
      rw [e2 i (by omega), hv]
    rw [← ht]
    have run : ∀ N, DR N W H D → ∀ k, k < t → f_MDotRows_run (nI X) (nI Y) (nI k) d N = some (nI (v k), im_setI N 89 0 0) := by
      intro N drN k hk
      have hvk := vb k hk
      rw [s_runM drN (by omega) (by omega) hc, ← hlen, rci_n (by omega) len (by omega)]
      have : ¬ rc c k len = 0 := by
        rw [hv] at hvk
        have : 1 ≤ rc c k len := hvk.1
        omega
      rw [if_neg this, hv]
    have rend : ∀ N, DR N W H D → f_MDotRows_run (nI X) (nI Y) (nI t) d N = some (-1, im_setI N 89 0 0) := by
      intro N drN
      rw [s_runM drN (by omega) (by omega) hc, ← hlen, rci_n (by omega) len (by omega)]
      have : rc c t len = 0 := by
        have := rc_0 (c := c) (j := t) (len - 1) (by omega)
        rw [show len - 1 + 1 = len by omega] at this
        exact this
      rw [if_pos this]
    apply bd2_mk
    refine ed_mono (s_under (M := M4) (v := v) (c := t) (by omega) (by omega) vb v32) ?_
    rintro ⟨x5, M5⟩ ⟨f5, r5⟩
    replace f5 : fr (2 ^ 36 ||| 2 ^ 37 ||| 2 ^ 68) [(31, 3), (31, 4), (31, 9), (31, 11), (31, 12)] M4 M5 := f5
    obtain ⟨m, hm⟩ : ∃ m, m = if t % 2 = 1 then t else t - 1 := ⟨_, rfl⟩
    have hm2 : m ≤ t ∧ m % 2 = 1 ∧ m ≤ 511 := by
      rw [hm]
      split <;> omega
    rw [← hm] at r5
    have fM5 : fr (2 ^ 32 ||| 2 ^ 36 ||| 2 ^ 37 ||| 2 ^ 67 ||| 2 ^ 68) [(0, 12), (31, 3), (31, 4), (31, 9), (31, 11), (31, 12)] M M5 := fr_tr (fr_mono (by decide) (by decide) f5) (fr_tr (fr_mono (by decide) (by decide) f4) (fr_mono (by decide) (by decide) m4))
    have k67 : im_i M5 67 = im_i M2 67 := (fr_c f5 67 (by decide) (by decide)).trans (fr_c f4 67 (by decide) (by simp))
    have k012 : im_i M5 0 12 = 0 := ((f5.1 0 12 (by decide) (by decide)).trans (f4.1 0 12 (by decide) (by simp))).trans m3
    -- the reference from there
    have model : ∀ (N : im_M) (z : Int64), fr (2 ^ 32 ||| 2 ^ 36 ||| 2 ^ 37 ||| 2 ^ 67 ||| 2 ^ 68) [(0, 12), (31, 3), (31, 4), (31, 9), (31, 11), (31, 12)] M N → ∀ (P : Int32 × im_M → Prop), (∀ M42, NONE1 v m → fr (2 ^ 103 ||| 2 ^ 104 ||| 2 ^ 105 ||| 2 ^ 106 ||| 2 ^ 107) [(69, 0), (69, 10), (69, 12), (71, 0), (89, 0), (96, 3), (96, 10), (96, 14), (96, 15), (96, 17), (108, 0), (130, 0)] (im_setL N 138 0 z) M42 → im_i M42 69 0 = 0 → im_i M42 69 10 = -1 → im_i M42 69 12 = 0 → P (-1, M42)) → (∀ n b L M42, BEST v m n b L → L.length ≤ 290 → im_i M42 69 0 = 0 → im_i M42 69 10 = (if n = 59 then 2 else 1) → im_i M42 69 12 = nI L.length → im_i M42 96 15 = nI b → (∀ j, j < L.length → im_i M42 137 j = nI (L.getD j 0)) → fr (2 ^ 103 ||| 2 ^ 104 ||| 2 ^ 105 ||| 2 ^ 106 ||| 2 ^ 107 ||| 2 ^ 137) [(69, 0), (69, 10), (69, 12), (71, 0), (89, 0), (96, 3), (96, 10), (96, 14), (96, 15), (96, 17), (108, 0), (130, 0)] (im_setL N 138 0 z) M42 → P (nI L.length, M42)) → ed (f_M_bars (nI X) (nI Y) d (im_setL N 138 0 z)) P := by
      intro N z fN P hn hb
      refine head N z fN P ?_
      intro M3 a1 a2 a3 a4 a5
      rw [if_pos dk, if_pos (by decide)]
      have dr3 : DR M3 W H D := DR_fr a1 (by decide +kernel) dr
      apply bd2_mk
      refine ed_mono (s_countL dr3 run rend vb (by omega)) ?_
      rintro ⟨y11, M12⟩ ⟨b1, b2⟩
      replace b1 : y11 = nI t := b1
      replace b2 : fr 0 [(89, 0)] M3 M12 := b2
      subst b1
      have em : ((if ¬ (nI t - nI t / 2 * 2) = 0 then nI t else (nI t - 1)) : Int32) = nI m := by
        have er : nI t - nI t / 2 * 2 = nI (t % 2) := nI_rem (b := 2) (by omega) (by omega) (by omega)
        have ce : (nI (t % 2) = 0) = (t % 2 = 0) := nIe (c := 0) (by omega) (by omega)
        rw [er, hm]
        simp only [ce]
        by_cases z : t % 2 = 1
        · rw [if_pos z, if_pos (by omega)]
        · rw [if_neg z, if_neg (by omega), nI_m1 (by omega)]
      show ed (bs1 (lp (uc2 (f_M_bars_L92 (nI X) (nI Y) d)) (((if ¬ (nI t - nI t / 2 * 2) = 0 then nI t else (nI t - 1)) : Int32), M12)) _ _) P
      rw [em]
      apply bs1_mk
      have fM12 : fr (2 ^ 32 ||| 2 ^ 36 ||| 2 ^ 37 ||| 2 ^ 67 ||| 2 ^ 68 ||| 2 ^ 138) [(0, 12), (31, 3), (31, 4), (31, 9), (31, 11), (31, 12), (69, 0), (69, 10), (69, 12), (71, 0), (89, 0), (96, 3), (108, 0), (130, 0)] M M12 := fr_tr (fr_mono (by decide) (by decide) b2) a1
      have t97 : im_i M12 97 = im_i mm_341 97 := (fr_c fM12 97 (by decide) (by decide)).trans tabs.2.2.1
      have t98 : im_i M12 98 = im_i mm_341 98 := (fr_c fM12 98 (by decide) (by decide)).trans tabs.2.2.2.1
      have t99 : im_i M12 99 = im_i mm_341 99 := (fr_c fM12 99 (by decide) (by decide)).trans tabs.2.2.2.2.1
      refine ed_mono (s_barsL (DR_fr b2 (by decide +kernel) dr3) (m := m) (v := v) (fun N h k hk => run N h k (by omega)) (fun k hk => vb k (by omega)) hm2.2.2 hm2.2.1 t97 t98 t99) ?_
      rintro (M42 | ⟨x28, M42⟩) hr
      · obtain ⟨k1, k2⟩ := hr
        replace k2 : fr (2 ^ 103 ||| 2 ^ 104 ||| 2 ^ 105 ||| 2 ^ 106 ||| 2 ^ 107) [(89, 0), (96, 3), (96, 10), (96, 14), (96, 15), (96, 17)] M12 M42 := k2
        refine ed_mk (hn M42 k1 (fr_tr (fr_mono (by decide) (by decide) k2) (fr_tr (fr_mono (by decide) (by decide) b2) (fr_mono (by decide) (by decide) a2))) ?_ ?_ ?_)
        · exact ((k2.1 69 0 (by decide) (by decide)).trans (b2.1 69 0 (by decide) (by decide))).trans a3
        · exact ((k2.1 69 10 (by decide) (by decide)).trans (b2.1 69 10 (by decide) (by decide))).trans a4
        · exact ((k2.1 69 12 (by decide) (by decide)).trans (b2.1 69 12 (by decide) (by decide))).trans a5
      · obtain ⟨n, b, L, k1, k2, k3, k4, k5, k6, k7, k8⟩ := hr
        replace k3 : x28 = nI L.length := k3
        subst k3
        refine ed_mk (hb n b L M42 k1 k2 ?_ k4 k5 k6 k7 (fr_tr (fr_mono (by decide) (by decide) k8) (fr_tr (fr_mono (by decide) (by decide) b2) (fr_mono (by decide) (by decide) a2))))
        exact ((k8.1 69 0 (by decide) (by decide)).trans (b2.1 69 0 (by decide) (by decide))).trans a3
    rcases r5 with ⟨r1, r2⟩ | ⟨n, b, L, r1, r2, r3, r4, r6, r7⟩
    · replace r1 : x5 = -1 := r1
      subst r1
      show ed (if ¬ (-1 : Int32) = -1 then _ else _) _
      rw [if_neg (fun z => z rfl)]
      refine ed_mk (model M5 _ fM5 _ ?_ ?_)
      · intro M42 a1 a2 a3 a4 a5
        refine ⟨a3, fun _ => ?_, ?_⟩
        · show im_l M42 138 0 = _
          rw [a2.2 138 (by decide)]
          rfl
        · refine none M42 (fr_tr (fr_mono (by decide) (by decide) a2) (fr_L (by decide) (fr_mono (by decide) (by decide) fM5))) ?_ ?_ a4 a5
          · exact (fr_c a2 67 (by decide) (by decide)).trans k67
          · exact (a2.1 0 12 (by decide) (by decide)).trans k012
      · intro n b L M42 a1
        exact (BEST_no a1 r2).elim
    · replace r2 : x5 = nI L.length := r2
      replace r3 : OUTB M5 L := r3
      replace r6 : im_i M5 31 4 = nI b := r6
      replace r7 : im_i M5 31 3 = (if n = 59 then 1 else 0) := r7
      subst r2
      have hb1 := r1.2.2.1
      show ed (if ¬ nI L.length = -1 then _ else _) _
      have nn : ¬ nI L.length = -1 := fun z => absurd (show nI L.length < 0 by rw [z]; decide) (nI_pos (by omega))
      have cc0 : Int32.toNatClampNeg 0 = 0 := rfl
      have cc5 : Int32.toNatClampNeg 5 = 5 := rfl
      rw [if_pos nn, gd_pos (by decide), gd_pos (by decide), cc0, cc5]
      have ek : ((if im_i M5 31 3 = 0 then 1 else 2) : Int32) = if n = 59 then 2 else 1 := by
        rw [r7]
        by_cases c : n = 59
        · rw [if_pos c, if_pos c, if_neg (by decide)]
        · rw [if_neg c, if_neg c, if_pos rfl]
      have eb : ((if im_i M5 31 4 = 0 then 0 else 1) : Int32) = nI b := by
        rw [r6]
        rcases (by omega : b = 0 ∨ b = 1) with rfl | rfl
        · rfl
        · rfl
      have e314 : ∀ z : Int32, im_i (im_setI M5 67 0 z) 31 4 = im_i M5 31 4 := fun z => rfl
      rw [ek, e314, eb]
      refine ed_mk (model _ _ (fr_F (by decide) (fr_I (by decide) (fr_I (by decide) fM5))) _ ?_ ?_)
      · intro M42 a1
        exact (BEST_no r1 a1).elim
      · intro n' b' L' M42 a1 a2 a3 a4 a5 a6 a7 a8
        obtain ⟨rfl, rfl, rfl⟩ := BEST_one r1 a1
        have fA : fr (2 ^ 32 ||| 2 ^ 36 ||| 2 ^ 37 ||| 2 ^ 67 ||| 2 ^ 68 ||| 2 ^ 103 ||| 2 ^ 104 ||| 2 ^ 105 ||| 2 ^ 106 ||| 2 ^ 107 ||| 2 ^ 137 ||| 2 ^ 138) [(0, 12), (31, 3), (31, 4), (31, 9), (31, 11), (31, 12), (69, 0), (69, 10), (69, 12), (71, 0), (89, 0), (96, 3), (96, 10), (96, 14), (96, 15), (96, 17), (108, 0), (130, 0)] M M42 := fr_tr (fr_mono (by decide) (by decide) a8) (fr_L (by decide) (fr_mono (by decide) (by decide) (fr_F (by decide) (fr_I (by decide) (fr_I (by decide) fM5)))))
        refine ⟨a3, fun _ => ?_, RL_G fA ?_ q⟩
        · show im_l M42 138 0 = _
          rw [a8.2 138 (by decide)]
          rfl
        · have h67 : ∀ k, im_i M42 67 k = im_i (im_setI (im_setI M5 67 0 (if n = 59 then 2 else 1)) 67 5 (nI b)) 67 k := fun k => a8.1 67 k (by decide) (by simp)
          have h012 : im_i M42 0 12 = nI L.length := a8.1 0 12 (by decide) (by decide)
          have h68 : im_i M42 68 = im_i M5 68 := fr_c a8 68 (by decide) (by decide)
          have p0 : im_i M42 67 0 = if n = 59 then 2 else 1 := h67 0
          have pk : ∀ k, 1 ≤ k → k < 5 → im_i M42 67 k = -1 := by
            intro k k1 k2
            rw [h67 k]
            have z5 : ¬ k = 5 := by omega
            have z0 : ¬ k = 0 := by omega
            rw [← m1 k (by omega), ← k67]
            simp [mi_I, z5, z0]
          have p5 : im_i M42 67 5 = nI b := h67 5
          have p6 : im_i M42 67 6 = im_i M 67 6 := by
            rw [h67 6, ← m2, ← k67]
            rfl
          unfold QG
          rw [h012, a4, a5, a6, flt M42 fA, h68]
          refine ⟨⟨L.length, by omega, rfl, rfl, fun k hk => ?_⟩, p0, p6.trans g6, Or.inr (Or.inr ⟨?_, pk 1 (by omega) (by omega), pk 2 (by omega) (by omega), pk 3 (by omega) (by omega), pk 4 (by omega) (by omega), p5, ?_⟩)⟩
          · rw [a7 k hk, r3 k hk]
          · by_cases c : n = 59
            · rw [if_pos c]
              exact Or.inr rfl
            · rw [if_neg c]
              exact Or.inl rfl
          · rcases (by omega : b = 0 ∨ b = 1) with rfl | rfl
            · exact Or.inl rfl
            · exact Or.inr rfl
  · rw [if_neg dk, if_neg (by decide)]
    have fM2 : fr (2 ^ 32 ||| 2 ^ 36 ||| 2 ^ 37 ||| 2 ^ 67 ||| 2 ^ 68) [(0, 12), (31, 3), (31, 4), (31, 9), (31, 11), (31, 12)] M M2 := fr_mono (by decide) (by decide) m4
    refine ed_mk (head M2 _ fM2 _ ?_)
    intro M3 a1 a2 a3 a4 a5
    rw [if_neg dk, if_neg (by decide)]
    refine ed_mk ⟨a3, fun _ => ?_, none M3 (fr_mono (by decide) (by decide) a1) ?_ ?_ a4 a5⟩
    · show im_l M3 138 0 = _
      rw [a2.2 138 (by decide)]
      rfl
    · exact fr_c a2 67 (by decide) (by decide)
    · exact (a2.1 0 12 (by decide) (by decide)).trans m3
theorem n_bars {w : Bool} {M : im_M} {p0 p1 d : Int32} (q : RL w M) (h : f_HSheet_has p0 p1 M = some 0) : ed (f_M_bars p0 p1 d (im_noX M)) (ans w 1) := by
  obtain ⟨W, H, D, dh, dr⟩ := QD_H q
  have hW := dh.1
  obtain ⟨x, rfl, x1, x2⟩ := iZ_of p0
  obtain ⟨y, rfl, y1, y2⟩ := iZ_of p1
  have off : ¬ (0 ≤ x ∧ x < (W : Int) ∧ 0 ≤ y ∧ y < (H : Int)) := by
    intro c
    rw [s_has dh ⟨x1, x2⟩ ⟨y1, y2⟩, if_pos c] at h
    exact absurd (Option.some.inj h) (by decide)
  unfold f_M_bars
  apply bd2_mk
  rw [iZ_l (by omega), iZ_l (by omega)]
  refine ed_mono (s_isOn (DR_0 fr0_X dr) (a := x) (b := y) (by omega) (by omega)) ?_
  rintro ⟨t, M4⟩ ⟨ht, f4⟩
  replace ht : t = if 0 ≤ x ∧ x < (W : Int) ∧ 0 ≤ y ∧ y < (H : Int) then 1 else 0 := ht
  replace f4 : fr1 (im_noX M) M4 := f4
  rw [if_neg off] at ht
  subst ht
  show ed (if im_i (im_setI M4 69 0 (if (0 : Int32) = 0 then 1 else 0)) 69 0 ≤ 0 then _ else _) _
  rw [if_pos (rfl : (0 : Int32) = 0), if_neg (by show ¬ (1 : Int32) ≤ 0; decide)]
  exact ed_mk ⟨rfl, fun k => absurd k (by decide), RL_0 (fr0_69 (fr0_tr (fr1_0 f4) fr0_X)) q⟩
theorem x_20 : owed 20 := by
  intro L xs dep i w M P hL hi hM q hk hn hn0
  refine law_20 hL hi hM hk ?_ hn
  rcases has_01 (p0 := xs (i + 1)) (p1 := xs (i + 2)) q with h | h
  · exact wr_bars hM (c_bars q h)
  · exact wt_bars_1 hM (H_bars_1 (dep := dep + 22) h hM) (n_bars q h)
