/-! THE REFERENCE BEGINS TO READ -/
theorem wr_byte : ∀ u : Fin 256, Int64.toInt32 (((Int32.toInt64 (nI u.val)) >>> (Int32.toInt64 ((8 : Int32) * 0) &&& 63) : Int64) &&& 255) = nI u.val := by decide +kernel
theorem s_write1 {M : im_M} {n u : Nat} (h2 : im_i M 71 2 = nI n) (hn : n < 4096) (hu : u < 256) : ed (f_MScriptRows_write 1 (Int32.toInt64 (nI u)) M) (fun r => fr (2 ^ 72) [(71, 0), (71, 2)] M r.2 ∧ im_i r.2 71 2 = nI (n + 1) ∧ ∀ p, im_i r.2 72 p = if p = n then nI u else im_i M 72 p) := by
  unfold f_MScriptRows_write
  have t0 : ((if (1 : Int32) < 1 then 1 else (if (1 : Int32) ≤ 8 then 0 else 1)) : Int32) = 0 := by decide
  rw [t0]
  obtain ⟨N, hN⟩ : ∃ N, N = im_setI M 71 0 0 := ⟨_, rfl⟩
  have fN : fr 0 [(71, 0)] M N := by rw [hN]; exact fr_F (by decide) fr_refl
  have z0 : im_i N 71 0 = 0 := by rw [hN]; rfl
  have z2 : im_i N 71 2 = nI n := (fN.1 71 2 (by decide) (by decide)).trans h2
  rw [← hN]
  clear hN
  have e1 : nI n + 1 = nI (n + 1) := nI_add n 1
  have l1 : nI (n + 1) ≤ 4096 := by
    have : (nI (n + 1) ≤ 4096) = (n + 1 ≤ 4096) := nIl (c := 4096) (by omega) (by omega)
    rw [this]; omega
  rw [z0, if_pos (by decide), z2, e1, if_pos l1]
  have w := wr_byte ⟨u, hu⟩
  replace w : Int64.toInt32 (((Int32.toInt64 (nI u)) >>> (Int32.toInt64 ((8 : Int32) * 0) &&& 63) : Int64) &&& 255) = nI u := w
  have L : lp (uc2 (f_MScriptRows_write_L46 1 (Int32.toInt64 (nI u)))) (0, N) = some (im_setI (im_setI N 72 n (nI u)) 71 2 (nI (n + 1))) := by
    refine lp_l (s' := ((1 : Int32), im_setI (im_setI N 72 n (nI u)) 71 2 (nI (n + 1)))) ?_ (lp_r ?_)
    · show f_MScriptRows_write_L46 1 (Int32.toInt64 (nI u)) 0 N = _
      unfold f_MScriptRows_write_L46
      rw [if_neg (by decide), z2, gd_pos (by rw [inb_nI (by omega)]; omega), nI_clamp (by omega), w]
      show some (Sum.inl ((0 : Int32) + 1, im_setI (im_setI N 72 n (nI u)) 71 2 (im_i N 71 2 + 1))) = _
      rw [z2, e1]
      rfl
    · show f_MScriptRows_write_L46 1 (Int32.toInt64 (nI u)) 1 _ = _
      unfold f_MScriptRows_write_L46
      rw [if_pos (by decide)]
  rw [L, bd1_s]
  exact ed_mk ⟨fr_F (by decide) (fr_I (by decide) (fr_mono (by decide) (by decide) fN)), rfl, fun p => by
    show (if p = n then nI u else im_i N 72 p) = _
    rw [fN.1 72 p (by decide) (by simp)]⟩
theorem s_rewrite {M : im_M} {n : Nat} {B : Nat → Nat} (hn : n ≤ 4096) (h2 : im_i M 69 2 = nI n) (h0 : im_i M 71 2 = 0) (hB : ∀ k, k < n → B k < 256 ∧ im_i M 70 k = nI (B k)) : ed (lp (uc2 f_M_read_L10) (0, M)) (fun R => fr (2 ^ 72) [(71, 0), (71, 2)] M R ∧ im_i R 71 2 = nI n ∧ ∀ k, k < n → im_i R 72 k = nI (B k)) := by
  refine lp_inv (fun m (s : Int32 × im_M) => ∃ i : Nat, i + m = n ∧ s.1 = nI i ∧ fr (2 ^ 72) [(71, 0), (71, 2)] M s.2 ∧ im_i s.2 71 2 = nI i ∧ ∀ k, k < i → im_i s.2 72 k = nI (B k)) ?_ (k := n) ⟨0, by omega, rfl, fr_refl, h0, fun k hk => absurd hk (by omega)⟩
  rintro m ⟨x3, M4⟩ ⟨i, hi, e1, f, g2, h⟩
  replace e1 : x3 = nI i := e1
  replace f : fr (2 ^ 72) [(71, 0), (71, 2)] M M4 := f
  replace g2 : im_i M4 71 2 = nI i := g2
  replace h : ∀ k, k < i → im_i M4 72 k = nI (B k) := h
  subst e1
  show ed (f_M_read_L10 (nI i) M4) _
  unfold f_M_read_L10
  rw [f.1 69 2 (by decide) (by decide), h2, if_nIl (by omega) (by omega)]
  by_cases c : n ≤ i
  · rw [if_pos c]
    obtain rfl : i = n := by omega
    exact lpo_r ⟨f, g2, h⟩
  · rw [if_neg c, gd_pos (by rw [inb_nI (by omega)]; omega), nI_clamp (by omega), f.1 70 i (by decide) (by simp), (hB i (by omega)).2]
    apply bd2_mk
    refine ed_mono (s_write1 g2 (by omega) (hB i (by omega)).1) ?_
    rintro ⟨x5, M5⟩ ⟨f5, k2, k72⟩
    replace f5 : fr (2 ^ 72) [(71, 0), (71, 2)] M4 M5 := f5
    refine lpo_l (m - 1) (by omega) ⟨i + 1, by omega, nI_add i 1, fr_tr f5 f, k2, fun k hk => ?_⟩
    show im_i M5 72 k = _
    replace k72 : ∀ p, im_i M5 72 p = if p = i then nI (B i) else im_i M4 72 p := k72
    rw [k72]
    by_cases e : k = i
    · rw [if_pos e, e]
    · rw [if_neg e]
      exact h k (by omega)
theorem s_pile {M : im_M} {n : Nat} (hn : n ≤ 4096) (h8 : im_i M 71 8 = 0) : ed (lp (uc2 f_MScriptRows_read_L17) (nI n - 1, M)) (fun R => fr (2 ^ 77) [(71, 8)] M R ∧ MS R (bl (im_i M 72) 0 n)) := by
  refine lp_inv (fun m (s : Int32 × im_M) => ∃ j : Nat, j = m ∧ j ≤ n ∧ s.1 = nI j - 1 ∧ fr (2 ^ 77) [(71, 8)] M s.2 ∧ MS s.2 (bl (im_i M 72) j (n - j))) ?_ (k := n) ⟨n, rfl, Nat.le_refl _, rfl, fr_refl, by rw [Nat.sub_self]; exact ⟨h8, by show (0 : Nat) ≤ 5800; omega, trivial⟩⟩
  rintro m ⟨x2, M3⟩ ⟨j, rfl, hj, e1, f, q⟩
  replace e1 : x2 = nI j - 1 := e1
  replace f : fr (2 ^ 77) [(71, 8)] M M3 := f
  replace q : MS M3 (bl (im_i M 72) j (n - j)) := q
  subst e1
  show ed (f_MScriptRows_read_L17 (nI j - 1) M3) _
  unfold f_MScriptRows_read_L17
  have c0 : (nI j - 1 < 0) = (j = 0) := by
    have e : nI j - 1 = iZ ((j : Int) - 1) := by rw [iZ_nI, show (1 : Int32) = iZ 1 from rfl, iZ_sub]
    rw [e, show (0 : Int32) = iZ 0 from rfl, iZ_lt (by omega) (by omega)]
    apply propext
    omega
  simp only [c0]
  by_cases c : j = 0
  · rw [if_pos c]
    rw [c, Nat.sub_zero] at q
    exact lpo_r ⟨f, q⟩
  · have ej : nI j - 1 = nI (j - 1) := nI_m1 (by omega)
    have ej2 : nI (j - 1) + (-1) = nI (j - 1) - 1 := by rw [← Int32.sub_eq_add_neg]
    have ql := q.1
    rw [bl_len] at ql
    have e72 : im_i M3 72 = im_i M 72 := fr_c f 72 (by decide) (by decide)
    rw [if_neg c, ej, gd_pos (by rw [inb_nI (by omega)]; omega), ql, gd_pos (by rw [inb_nI (by omega)]; omega), nI_clamp (by omega), nI_clamp (by omega), e72, ej2]
    have pu := MS_push (x := im_i M 72 (j - 1)) q (by rw [bl_len]; omega)
    rw [bl_len] at pu
    refine lpo_l (j - 1) (by omega) ⟨j - 1, rfl, by omega, rfl, fr_F (by decide) (fr_I (by decide) f), ?_⟩
    show MS (im_setI (im_setI M3 77 (n - j) (im_i M 72 (j - 1))) 71 8 (im_i M3 71 8 + 1)) (bl (im_i M 72) (j - 1) (n - (j - 1)))
    have el : n - (j - 1) = (n - j) + 1 := by omega
    have e8 : im_i M3 71 8 + 1 = nI (n - j + 1) := by rw [ql]; exact nI_add _ 1
    have eb : bl (im_i M 72) (j - 1) (n - (j - 1)) = im_i M 72 (j - 1) :: bl (im_i M 72) j (n - j) := by
      rw [el]
      show im_i M 72 (j - 1) :: bl (im_i M 72) (j - 1 + 1) (n - j) = _
      rw [show j - 1 + 1 = j by omega]
    rw [e8, eb]
    exact pu
