/-! BLOCKS AND THEIR CHECK BYTES, BY THE REFERENCE -/
theorem s_genR {M : im_M} {c : Nat} (hc : c ≤ 30) : ed (f_MSquareRows_generate (nI c) M) (fun R => (∀ j, j ≤ c → im_i R 127 j = nI (GN c j)) ∧ fr (2 ^ 127) [] M R) := by
  unfold f_MSquareRows_generate
  rw [gd_pos (by decide)]
  have g0 : ∀ j, j ≤ 0 → im_i (im_setI M 127 (Int32.toNatClampNeg 0) 1) 127 j = nI (GN 0 j) := fun j hj => by
    obtain rfl : j = 0 := by omega
    exact hit
  apply bd1_mk
  refine ed_mono (lp_inv (fun m (s : Int32 × im_M) => ∃ i : Nat, i + m = c ∧ s.1 = nI i ∧ (∀ j, j ≤ i → im_i s.2 127 j = nI (GN i j)) ∧ fr (2 ^ 127) [] M s.2) (Q := fun R => (∀ j, j ≤ c → im_i R 127 j = nI (GN c j)) ∧ fr (2 ^ 127) [] M R) ?_ (k := c) ⟨0, by omega, rfl, g0, fr_I (by decide) fr_refl⟩) (fun R h => ed_mk h)
  rintro m ⟨x3, M4⟩ ⟨i, hi, e1, g4, f4⟩
  replace e1 : x3 = nI i := e1
  replace g4 : ∀ j, j ≤ i → im_i M4 127 j = nI (GN i j) := g4
  replace f4 : fr (2 ^ 127) [] M M4 := f4
  subst e1
  show ed (f_MSquareRows_generate_L9 (nI c) (nI i) M4) _
  unfold f_MSquareRows_generate_L9
  rw [if_nIl (by omega) (by omega)]
  by_cases z : c ≤ i
  · rw [if_pos z]
    obtain rfl : i = c := by omega
    exact lpo_r ⟨g4, f4⟩
  · rw [if_neg z, s_two (by omega), bd1_s, show nI i + 1 = nI (i + 1) from nI_add i 1, gd_pos (by rw [inb_nI (by omega)]; omega), nI_clamp (by omega)]
    apply bd1_mk
    refine ed_mono (lp_inv (fun j (s : Int32 × im_M) => j ≤ i + 1 ∧ s.1 = nI j ∧ (∀ u, u ≤ i + 1 → im_i s.2 127 u = nI (if j < u then GN (i + 1) u else GN i u)) ∧ fr (2 ^ 127) [] M s.2) (Q := fun R => (∀ j, j ≤ i + 1 → im_i R 127 j = nI (GN (i + 1) j)) ∧ fr (2 ^ 127) [] M R) ?_ (k := i + 1) ⟨Nat.le_refl _, rfl, fun u hu => ?_, fr_I (by decide) f4⟩) ?_
    · rintro j ⟨x7, M8⟩ ⟨hj, e1, g8, f8⟩
      replace e1 : x7 = nI j := e1
      replace g8 : ∀ u, u ≤ i + 1 → im_i M8 127 u = nI (if j < u then GN (i + 1) u else GN i u) := g8
      replace f8 : fr (2 ^ 127) [] M M8 := f8
      subst e1
      show ed (f_MSquareRows_generate_L33 (nI c) (nI i) (nI (pwN i)) (nI j) M8) _
      unfold f_MSquareRows_generate_L33
      have k0 : (nI j ≤ 0) = (j ≤ 0) := nIl (c := 0) (by omega) (by omega)
      simp only [k0]
      by_cases y : j ≤ 0
      · rw [if_pos y]
        obtain rfl : j = 0 := by omega
        refine lpo_r ⟨fun u hu => ?_, f8⟩
        rw [g8 u hu]
        by_cases e : 0 < u
        · rw [if_pos e]
        · rw [if_neg e, show u = 0 by omega, GN_1, GN_1]
      · obtain ⟨r, rfl⟩ : ∃ r, j = r + 1 := ⟨j - 1, by omega⟩
        have em : nI (r + 1) - 1 = nI r := by rw [nI_m1 (by omega), Nat.add_sub_cancel]
        have ep : nI (r + 1) + (-1) = nI r := by
          rw [← show nI r + 1 = nI (r + 1) from nI_add r 1, Int32.add_assoc]
          show nI r + 0 = nI r
          exact Int32.add_zero _
        rw [if_neg y, em, ep, gd_pos (by rw [inb_nI (by omega)]; omega), gd_pos (by rw [inb_nI (by omega)]; omega), nI_clamp (by omega), nI_clamp (by omega), g8 r (by omega), if_neg (by omega), s_timesR (GN_lt _ _) (pw_lt _), bd1_s, gd_pos (by rw [inb_nI (by omega)]; omega), g8 (r + 1) (by omega), if_neg (by omega), nI_xor]
        refine lpo_l r (by omega) ⟨by omega, rfl, fun u hu => ?_, fr_I (by decide) f8⟩
        show im_i (im_setI M8 127 (r + 1) _) 127 u = _
        by_cases e : u = r + 1
        · subst e
          rw [hit, if_pos (by omega)]
          show _ = nI (if 1 ≤ r + 1 ∧ r + 1 ≤ i + 1 then GN i (r + 1) ^^^ gm (GN i (r + 1 - 1)) (pwN i) else GN i (r + 1))
          rw [if_pos (by omega), Nat.add_sub_cancel]
        · rw [sk1 (fun z => e z.2), g8 u hu]
          by_cases w : r + 1 < u
          · rw [if_pos w, if_pos (by omega)]
          · rw [if_neg w, if_neg (by omega)]
    · show im_i (im_setI M4 127 (i + 1) 0) 127 u = _
      rw [if_neg (by omega)]
      by_cases e : u = i + 1
      · subst e
        rw [hit, GN_0 i (i + 1) (by omega)]
        rfl
      · rw [sk1 (fun z => e z.2)]
        exact g4 u (by omega)
    · rintro R ⟨gR, fR⟩
      exact lpo_l (m - 1) (by omega) ⟨i + 1, by omega, rfl, gR, fR⟩
/-- a block's share, start and places -/
theorem bc_n {v l : Nat} (hv : 1 ≤ v ∧ v ≤ 40) (hl : l < 4) : 1 ≤ bcT (jx v l) ∧ bcT (jx v l) ≤ 81 ∧ 7 ≤ ckT (jx v l) ∧ ckT (jx v l) ≤ 30 ∧ HO v l ≤ 2956 ∧ bcT (jx v l) ≤ HO v l ∧ HO v l / bcT (jx v l) + 1 + ckT (jx v l) ≤ 255 ∧ CW v ≤ 3706 ∧ HO v l + bcT (jx v l) * ckT (jx v l) = CW v := by
  obtain ⟨_, _, _, _, n1, n2, k1, k2⟩ := tb_bc ⟨jx v l, jx_lt hv hl⟩
  obtain ⟨o1, o2, o3, o4, o5, _⟩ := tb_hold ⟨v, by omega⟩ ⟨l, hl⟩ hv.1
  refine ⟨n1, n2, k1, k2, o2, o3, o4, o5, ?_⟩
  replace o1 : bcT (jx v l) * ckT (jx v l) ≤ CW v := o1
  unfold HO
  omega
theorem s_shareOf {M : im_M} {v l b : Nat} (q : TBR M) (hv : 1 ≤ v ∧ v ≤ 40) (hl : l < 4) (hb : b ≤ 81) : f_MSquareRows_shareOf (nI v) (nI l) (nI b) M = some (nI (szB (HO v l) (bcT (jx v l)) b)) := by
  obtain ⟨n1, n2, _, _, o2, _, _, _, _⟩ := bc_n hv hl
  have qh := s_holdsR q hv hl
  have qb := s_blocksOf q hv hl
  generalize HO v l = h at *
  generalize bcT (jx v l) = n at *
  have r : h % n < n := Nat.mod_lt _ (by omega)
  have z : ¬ nI n = 0 := nI_z (by omega) (by omega)
  unfold f_MSquareRows_shareOf szB
  rw [qb, bd1_s, qh, bd1_s, gd_pos z, bd1_s, gd_pos z, nI_rem (by omega) (by omega) (by omega), nI_div (by omega) (by omega) (by omega), nI_sb (by omega), if_nIlt (by omega) (by omega)]
  by_cases y : b < n - h % n
  · rw [if_pos y, if_pos y]
    rfl
  · rw [if_neg y, if_neg y]
    exact congrArg some (nI_add (h / n) 1)
theorem s_startOf {M : im_M} {v l b : Nat} (q : TBR M) (hv : 1 ≤ v ∧ v ≤ 40) (hl : l < 4) (hb : b ≤ 81) : f_MSquareRows_startOf (nI v) (nI l) (nI b) M = some (nI (srB (HO v l) (bcT (jx v l)) b)) := by
  unfold f_MSquareRows_startOf
  have e : lp (uc2 (f_MSquareRows_startOf_L6 (nI v) (nI l) (nI b) M)) (0, 0) = some (nI (srB (HO v l) (bcT (jx v l)) b)) := by
    refine lp_row (fun i => (nI (srB (HO v l) (bcT (jx v l)) i), nI i)) b (fun i hi => ?_) ?_
    · show f_MSquareRows_startOf_L6 (nI v) (nI l) (nI b) M (nI (srB (HO v l) (bcT (jx v l)) i)) (nI i) = some (Sum.inl (nI (srB (HO v l) (bcT (jx v l)) i + szB (HO v l) (bcT (jx v l)) i), nI (i + 1)))
      unfold f_MSquareRows_startOf_L6
      rw [if_nIl (by omega) (by omega), if_neg (by omega), s_shareOf q hv hl (by omega), bd1_s, nI_add]
      exact congrArg (fun z => some (Sum.inl (_, z))) (nI_add i 1)
    · show f_MSquareRows_startOf_L6 (nI v) (nI l) (nI b) M (nI (srB (HO v l) (bcT (jx v l)) b)) (nI b) = _
      unfold f_MSquareRows_startOf_L6
      rw [if_nIl (by omega) (by omega), if_pos (by omega)]
  rw [e, bd1_s]
theorem s_placeR {M : im_M} {v l b i : Nat} (q : TBR M) (hv : 1 ≤ v ∧ v ≤ 40) (hl : l < 4) (hb : b < bcT (jx v l)) (hi : i ≤ 255) : f_MSquareRows_placeOf (nI v) (nI l) (nI b) (nI i) M = some (nI (plcB (HO v l) (bcT (jx v l)) b i)) := by
  obtain ⟨n1, n2, _, _, o2, _, _, _, _⟩ := bc_n hv hl
  have qh := s_holdsR q hv hl
  have qb := s_blocksOf q hv hl
  have qs := s_shareOf (b := b) q hv hl (by omega)
  generalize HO v l = h at *
  generalize bcT (jx v l) = n at *
  have r : h % n < n := Nat.mod_lt _ (by omega)
  have z : ¬ nI n = 0 := nI_z (by omega) (by omega)
  have d : h / n ≤ h := Nat.div_le_self _ _
  have sb := szB_b (h := h) (n := n) (b := b)
  unfold f_MSquareRows_placeOf plcB
  rw [qb, bd1_s, qs, bd1_s, qh, bd1_s, gd_pos z, bd1_s, gd_pos z, bd1_s, nI_rem (by omega) (by omega) (by omega), nI_div (by omega) (by omega) (by omega), if_nIlt (by omega) (by omega), if_nIl (by omega) (by omega), nI_sb (by omega)]
  by_cases y : i < szB h n b
  · rw [if_pos y, if_pos y]
    by_cases x : h / n ≤ i
    · have wb : n - h % n ≤ b := by
        unfold szB at y
        by_cases u : b < n - h % n
        · rw [if_pos u] at y; omega
        · omega
      rw [if_pos x, if_pos x, nI_mul, nI_add, nI_sb (by omega)]
    · rw [if_neg x, if_neg x, nI_mul, nI_add]
  · rw [if_neg y, if_neg y, nI_sb (by omega), nI_mul, nI_add, nI_add]
/-- what stands in the reference's block after i steps -/
def rmK (c : Nat) (d : Nat → Nat) (z i k : Nat) : Nat := (if k < z then d k else 0) ^^^ (if k - i < c then RM c d i (k - i) else 0)
theorem rmK_lt {c z i k : Nat} {d : Nat → Nat} (hd : ∀ i, i < z → d i < 256) : rmK c d z i k < 256 := by
  unfold rmK
  refine xor_lt ?_ ?_
  · split
    · exact hd k (by assumption)
    · omega
  · split
    · exact RM_lt _ _
    · omega
theorem rmK_s {c z i j : Nat} {d : Nat → Nat} (hi : i < z) (hc : 1 ≤ c) : rmK c d z (i + 1) (i + 1 + j) = rmK c d z i (i + (j + 1)) ^^^ (if j + 1 ≤ c then gm (rmK c d z i i) (GN c (j + 1)) else 0) := by
  have b0 : rmK c d z i i = d i ^^^ RM c d i 0 := by
    unfold rmK
    rw [if_pos hi, Nat.sub_self, if_pos (show 0 < c from hc)]
  unfold rmK at b0 ⊢
  rw [b0, show i + 1 + j - (i + 1) = j by omega, show i + (j + 1) - i = j + 1 by omega, show i + 1 + j = i + (j + 1) by omega, Nat.xor_assoc]
  congr 1
  by_cases z1 : j < c
  · rw [if_pos z1, if_pos (show j + 1 ≤ c by omega)]
    rfl
  · rw [if_neg z1, if_neg (by omega), if_neg (by omega)]
    rfl
theorem s_divR {M : im_M} {c z : Nat} {a1 a2 a3 a4 : Int32} {d : Nat → Nat} (hc : 1 ≤ c ∧ c ≤ 30) (hz : z + c ≤ 255) (hd : ∀ i, i < z → d i < 256) (hg : ∀ j, j ≤ c → im_i M 127 j = nI (GN c j)) (hb : ∀ k, k < z + c → im_i M 121 k = nI (rmK c d z 0 k)) : ed (lp (uc2 (f_MSquareRows_check_L95 a1 a2 (nI c) a3 (nI z) a4)) (0, M)) (fun R => (∀ k, z ≤ k → k < z + c → im_i R 121 k = nI (RM c d z (k - z))) ∧ fr (2 ^ 121) [] M R) := by
  refine lp_inv (fun m (s : Int32 × im_M) => ∃ i : Nat, i + m = z ∧ s.1 = nI i ∧ (∀ k, i ≤ k → k < z + c → im_i s.2 121 k = nI (rmK c d z i k)) ∧ fr (2 ^ 121) [] M s.2) ?_ (k := z) ⟨0, by omega, rfl, fun k _ hk => hb k hk, fr_refl⟩
  rintro m ⟨x39, M40⟩ ⟨i, hi, e1, r40, f40⟩
  replace e1 : x39 = nI i := e1
  replace r40 : ∀ k, i ≤ k → k < z + c → im_i M40 121 k = nI (rmK c d z i k) := r40
  replace f40 : fr (2 ^ 121) [] M M40 := f40
  subst e1
  show ed (f_MSquareRows_check_L95 a1 a2 (nI c) a3 (nI z) a4 (nI i) M40) _
  unfold f_MSquareRows_check_L95
  rw [if_nIl (by omega) (by omega)]
  by_cases y : z ≤ i
  · rw [if_pos y]
    obtain rfl : i = z := by omega
    refine lpo_r ⟨fun k h1 h2 => ?_, f40⟩
    rw [r40 k h1 h2]
    unfold rmK
    rw [if_neg (by omega), if_pos (by omega), Nat.zero_xor]
  · have kl := rmK_lt (c := c) (i := i) (k := i) hd
    rw [if_neg y, gd_pos (by rw [inb_nI (by omega)]; omega), nI_clamp (by omega), r40 i (Nat.le_refl _) (by omega)]
    apply bd1_mk
    refine ed_mono (lp_inv (fun m (s : Int32 × im_M) => ∃ j : Nat, j + m = c + 1 ∧ s.1 = nI j ∧ (∀ k, i ≤ k → k < z + c → im_i s.2 121 k = nI (if k < i + j then rmK c d z i k ^^^ gm (rmK c d z i i) (GN c (k - i)) else rmK c d z i k)) ∧ fr (2 ^ 121) [] M s.2) (Q := fun R => (∀ k, i + 1 ≤ k → k < z + c → im_i R 121 k = nI (rmK c d z (i + 1) k)) ∧ fr (2 ^ 121) [] M R) ?_ (k := c + 1) ⟨0, by omega, rfl, fun k h1 h2 => by rw [if_neg (by omega)]; exact r40 k h1 h2, f40⟩) ?_
    · rintro m ⟨x50, M51⟩ ⟨j, hj, e1, r51, f51⟩
      replace e1 : x50 = nI j := e1
      replace r51 : ∀ k, i ≤ k → k < z + c → im_i M51 121 k = nI (if k < i + j then rmK c d z i k ^^^ gm (rmK c d z i i) (GN c (k - i)) else rmK c d z i k) := r51
      replace f51 : fr (2 ^ 121) [] M M51 := f51
      subst e1
      show ed (f_MSquareRows_check_L114 a1 a2 (nI c) a3 (nI z) a4 (nI i) (nI (rmK c d z i i)) (nI j) M51) _
      unfold f_MSquareRows_check_L114
      have kz : (nI (rmK c d z i i) = 0) = (rmK c d z i i = 0) := nIe (c := 0) (by omega) (by omega)
      simp only [kz]
      rw [if_nIlt (by omega) (by omega)]
      by_cases w : c < j
      · rw [if_pos w]
        refine lpo_r ⟨fun k h1 h2 => ?_, f51⟩
        obtain ⟨u, rfl⟩ : ∃ u, k = i + 1 + u := ⟨k - (i + 1), by omega⟩
        rw [r51 _ (by omega) h2, rmK_s (by omega) hc.1, show i + 1 + u = i + (u + 1) by omega, show i + (u + 1) - i = u + 1 by omega]
        by_cases x : i + (u + 1) < i + j
        · rw [if_pos x, if_pos (by omega)]
        · rw [if_neg x, if_neg (by omega), Nat.xor_zero]
      · rw [if_neg w]
        by_cases t : rmK c d z i i = 0
        · rw [if_pos t]
          refine lpo_r ⟨fun k h1 h2 => ?_, f51⟩
          obtain ⟨u, rfl⟩ : ∃ u, k = i + 1 + u := ⟨k - (i + 1), by omega⟩
          rw [r51 _ (by omega) h2, rmK_s (by omega) hc.1, t, gm_0, gm_0, Nat.xor_zero, show i + 1 + u = i + (u + 1) by omega]
          have e0 : (if u + 1 ≤ c then 0 else 0) = 0 := by split <;> rfl
          rw [e0, Nat.xor_zero]
          congr 1
          split <;> rfl
        · rw [if_neg t, nI_add, gd_pos (by rw [inb_nI (by omega)]; omega), gd_pos (by rw [inb_nI (by omega)]; omega), nI_clamp (by omega), nI_clamp (by omega), fr_c f51 127 (by decide) (by simp), hg j (by omega), s_timesR kl (GN_lt _ _), bd1_s, gd_pos (by rw [inb_nI (by omega)]; omega), r51 (i + j) (by omega) (by omega), if_neg (by omega), nI_xor]
          refine lpo_l (m - 1) (by omega) ⟨j + 1, by omega, nI_add j 1, fun k h1 h2 => ?_, fr_I (by decide) f51⟩
          show im_i (im_setI M51 121 (i + j) _) 121 k = _
          by_cases e : k = i + j
          · subst e
            rw [hit, if_pos (by omega), Nat.add_sub_cancel_left]
          · rw [sk1 (fun z => e z.2), r51 k h1 h2]
            by_cases x : k < i + j
            · rw [if_pos x, if_pos (by omega)]
            · rw [if_neg x, if_neg (by omega)]
    · rintro R ⟨rR, fR⟩
      exact lpo_l (m - 1) (by omega) ⟨i + 1, by omega, nI_add i 1, rR, fR⟩
theorem s_checkM {M : im_M} {v l : Nat} {D : Nat → Nat} (q : TBR M) (hv : 1 ≤ v ∧ v ≤ 40) (hl : l < 4) (hD : ∀ i, i < HO v l → D i < 256 ∧ im_i M 119 i = nI (D i)) : ed (f_MSquareRows_check (nI v) (nI l) M) (fun R => im_i R 120 = CWA (HO v l) (bcT (jx v l)) (ckT (jx v l)) D (im_i M 120) (bcT (jx v l)) ∧ fr (2 ^ 120 ||| 2 ^ 121 ||| 2 ^ 127) [] M R) := by
  obtain ⟨n1, n2, k1, k2, o2, o3, o4, o5, hs⟩ := bc_n hv hl
  have qc := s_checkOf q hv hl
  obtain ⟨h, hh⟩ : ∃ h, h = HO v l := ⟨_, rfl⟩
  obtain ⟨n, hn⟩ : ∃ n, n = bcT (jx v l) := ⟨_, rfl⟩
  obtain ⟨c, hc⟩ : ∃ c, c = ckT (jx v l) := ⟨_, rfl⟩
  have qb : ∀ R : im_M, TBR R → f_MSquareRows_blocksOf (nI v) (nI l) R = some (nI n) := fun R z => by rw [hn]; exact s_blocksOf z hv hl
  have qs : ∀ (R : im_M) (b : Nat), TBR R → b < n → f_MSquareRows_shareOf (nI v) (nI l) (nI b) R = some (nI (szB h n b)) := fun R b z hb => by rw [hn, hh]; exact s_shareOf z hv hl (by omega)
  have qt : ∀ (R : im_M) (b : Nat), TBR R → b < n → f_MSquareRows_startOf (nI v) (nI l) (nI b) R = some (nI (srB h n b)) := fun R b z hb => by rw [hn, hh]; exact s_startOf z hv hl (by omega)
  have qp : ∀ (R : im_M) (b i : Nat), TBR R → b < n → i ≤ 255 → f_MSquareRows_placeOf (nI v) (nI l) (nI b) (nI i) R = some (nI (plcB h n b i)) := fun R b i z hb hi => by rw [hn, hh]; exact s_placeR z hv hl (by omega) hi
  rw [← hh, ← hn, ← hc]
  rw [← hh] at hD o2 o3 o4 hs
  rw [← hn] at n1 n2 o3 o4 hs
  rw [← hc] at k1 k2 o4 hs qc
  clear hh hn hc
  have hq1 : 1 ≤ h / n := (Nat.le_div_iff_mul_le (by omega)).mpr (by omega)
  unfold f_MSquareRows_check
  rw [qc, bd1_s]
  apply bd1_mk
  refine ed_mono (s_genR k2) ?_
  rintro M2 ⟨g2, f2⟩
  have q2 := TBR_fr f2 (by decide +kernel) q
  have l2 : im_i M2 120 = im_i M 120 := fr_c f2 120 (by decide) (by simp)
  rw [← l2]
  have all : ed (lp (uc2 (f_MSquareRows_check_L15 (nI v) (nI l) (nI c))) (0, M2)) (fun R => im_i R 120 = CWA h n c D (im_i M2 120) n ∧ fr (2 ^ 120 ||| 2 ^ 121) [] M2 R) := by
    refine lp_for (S := Nat → Int32) (fun b A (s : Int32 × im_M) => s.1 = nI b ∧ im_i s.2 120 = A ∧ fr (2 ^ 120 ||| 2 ^ 121) [] M2 s.2) (Q := fun A R => im_i R 120 = A ∧ fr (2 ^ 120 ||| 2 ^ 121) [] M2 R) n (fun b A => bkA h n c D b A (szB h n b + c)) ?_ ?_ ⟨rfl, rfl, fr_refl⟩
    · rintro b A ⟨x7, M8⟩ hb ⟨e1, e2, f8⟩
      replace e1 : x7 = nI b := e1
      replace e2 : im_i M8 120 = A := e2
      replace f8 : fr (2 ^ 120 ||| 2 ^ 121) [] M2 M8 := f8
      subst e1
      show ed (f_MSquareRows_check_L15 (nI v) (nI l) (nI c) (nI b) M8) _
      unfold f_MSquareRows_check_L15
      have q8 := TBR_fr f8 (by decide +kernel) q2
      have sb := szB_b (h := h) (n := n) (b := b)
      have sh := srB_h (h := h) (n := n) (b := b) (by omega) hb
      have pl : ∀ i, i < szB h n b + c → plcB h n b i < 3706 := fun i hi => by
        have := plcB_lt (h := h) (n := n) (c := c) (b := b) (i := i) (by omega) hb hi
        omega
      have hd : ∀ i, i < szB h n b → (fun i => D (srB h n b + i)) i < 256 := fun i hi => (hD (srB h n b + i) (by omega)).1
      have a119 : ∀ R : im_M, fr (2 ^ 120 ||| 2 ^ 121) [] M2 R → ∀ i, i < szB h n b → im_i R 119 (srB h n b + i) = nI (D (srB h n b + i)) := fun R fR i hi => by
        rw [fr_c fR 119 (by decide) (by simp), fr_c f2 119 (by decide) (by simp)]
        exact (hD _ (by omega)).2
      rw [qb M8 q8, bd1_s, if_nIl (by omega) (by omega), if_neg (by omega), qs M8 b q8 hb, bd1_s, qt M8 b q8 hb, bd1_s]
      apply bd1_mk
      refine ed_mono (lp_inv (fun m (s : Int32 × im_M) => ∃ k : Nat, k + m = szB h n b + c ∧ s.1 = nI k ∧ (∀ j, j < k → im_i s.2 121 j = nI (rmK c (fun i => D (srB h n b + i)) (szB h n b) 0 j)) ∧ im_i s.2 120 = A ∧ fr (2 ^ 120 ||| 2 ^ 121) [] M2 s.2) (Q := fun R => (∀ j, j < szB h n b + c → im_i R 121 j = nI (rmK c (fun i => D (srB h n b + i)) (szB h n b) 0 j)) ∧ im_i R 120 = A ∧ fr (2 ^ 120 ||| 2 ^ 121) [] M2 R) ?_ (k := szB h n b + c) ⟨0, by omega, rfl, fun j hj => absurd hj (Nat.not_lt_zero _), e2, f8⟩) ?_
      · rintro m ⟨x19, M20⟩ ⟨k, hk, e1, r20, a20, f20⟩
        replace e1 : x19 = nI k := e1
        replace r20 : ∀ j, j < k → im_i M20 121 j = nI (rmK c (fun i => D (srB h n b + i)) (szB h n b) 0 j) := r20
        replace a20 : im_i M20 120 = A := a20
        replace f20 : fr (2 ^ 120 ||| 2 ^ 121) [] M2 M20 := f20
        subst e1
        show ed (f_MSquareRows_check_L49 (nI v) (nI l) (nI c) (nI b) (nI (szB h n b)) (nI (srB h n b)) (nI k) M20) _
        unfold f_MSquareRows_check_L49
        rw [nI_add, if_nIl (by omega) (by omega)]
        by_cases y : szB h n b + c ≤ k
        · rw [if_pos y]
          exact lpo_r ⟨fun j hj => r20 j (by omega), a20, f20⟩
        · have vv : (if nI (szB h n b) ≤ nI k then some (0 : Int32) else gd (inb (nI (srB h n b) + nI k) 3800) <| some (im_i M20 119 (Int32.toNatClampNeg (nI (srB h n b) + nI k)))) = some (nI (rmK c (fun i => D (srB h n b + i)) (szB h n b) 0 k)) := by
            have e0 : rmK c (fun i => D (srB h n b + i)) (szB h n b) 0 k = if k < szB h n b then D (srB h n b + k) else 0 := by
              unfold rmK
              have : (if k - 0 < c then RM c (fun i => D (srB h n b + i)) 0 (k - 0) else 0) = 0 := by split <;> rfl
              rw [this, Nat.xor_zero]
            rw [if_nIl (by omega) (by omega), e0]
            by_cases w : szB h n b ≤ k
            · rw [if_pos w, if_neg (by omega)]; rfl
            · rw [if_neg w, if_pos (by omega), nI_add, gd_pos (by rw [inb_nI (by omega)]; omega), nI_clamp (by omega), a119 M20 f20 k (by omega)]
          rw [if_neg y, vv, bd1_s, gd_pos (by rw [inb_nI (by omega)]; omega), nI_clamp (by omega)]
          refine lpo_l (m - 1) (by omega) ⟨k + 1, by omega, nI_add k 1, fun j hj => ?_, ?_, fr_I (by decide) f20⟩
          · show im_i (im_setI M20 121 k _) 121 j = _
            by_cases e : j = k
            · subst e; exact hit
            · rw [sk1 (fun z => e z.2)]; exact r20 j (by omega)
          · show im_i (im_setI M20 121 k _) 120 = A
            rw [up_o (by decide)]
            exact a20
      · rintro M31 ⟨r31, a31, f31⟩
        apply bd1_mk
        refine ed_mono (s_divR ⟨by omega, k2⟩ (by omega) hd (fun j hj => by rw [fr_c f31 127 (by decide) (by simp)]; exact g2 j hj) r31) ?_
        rintro M54 ⟨r54, f54⟩
        have f54a : fr (2 ^ 120 ||| 2 ^ 121) [] M2 M54 := fr_tr (fr_mono (by decide) (by simp) f54) f31
        have a54 : im_i M54 120 = A := (fr_c f54 120 (by decide) (by simp)).trans a31
        apply bd1_mk
        refine ed_mono (lp_for (S := Nat → Int32) (fun i A (s : Int32 × im_M) => s.1 = nI i ∧ im_i s.2 120 = A ∧ im_i s.2 121 = im_i M54 121 ∧ fr (2 ^ 120 ||| 2 ^ 121) [] M2 s.2) (Q := fun A R => im_i R 120 = A ∧ fr (2 ^ 120 ||| 2 ^ 121) [] M2 R) (szB h n b + c) (fun i A => upI A (plcB h n b i) (nI (wvB h n c D b i))) ?_ ?_ (s := A) ⟨rfl, a54, rfl, f54a⟩) ?_
        · rintro i A ⟨x62, M63⟩ hi ⟨e1, e2, e3, f63⟩
          replace e1 : x62 = nI i := e1
          replace e2 : im_i M63 120 = A := e2
          replace e3 : im_i M63 121 = im_i M54 121 := e3
          replace f63 : fr (2 ^ 120 ||| 2 ^ 121) [] M2 M63 := f63
          subst e1
          show ed (f_MSquareRows_check_L173 (nI v) (nI l) (nI c) (nI b) (nI (szB h n b)) (nI (srB h n b)) (nI i) M63) _
          unfold f_MSquareRows_check_L173
          have p := pl i hi
          have vv : (if nI (szB h n b) ≤ nI i then gd (inb (nI i) 256) <| some (im_i M63 121 (Int32.toNatClampNeg (nI i))) else gd (inb (nI (srB h n b) + nI i) 3800) <| some (im_i M63 119 (Int32.toNatClampNeg (nI (srB h n b) + nI i)))) = some (nI (wvB h n c D b i)) := by
            unfold wvB
            rw [if_nIl (by omega) (by omega)]
            by_cases w : szB h n b ≤ i
            · rw [if_pos w, if_neg (by omega), gd_pos (by rw [inb_nI (by omega)]; omega), nI_clamp (by omega), e3, r54 i w hi]
            · rw [if_neg w, if_pos (by omega), nI_add, gd_pos (by rw [inb_nI (by omega)]; omega), nI_clamp (by omega), a119 M63 f63 i (by omega)]
          rw [nI_add, if_nIl (by omega) (by omega), if_neg (by omega), qp M63 b i (TBR_fr f63 (by decide +kernel) q2) hb (by omega), bd1_s, vv, bd1_s, gd_pos (by rw [inb_nI (by omega)]; omega), nI_clamp (by omega)]
          refine ed_mk ⟨_, rfl, nI_add i 1, ?_, ?_, fr_I (by decide) f63⟩
          · show im_i (im_setI M63 120 (plcB h n b i) _) 120 = _
            rw [up_I, e2]
          · show im_i (im_setI M63 120 (plcB h n b i) _) 121 = _
            rw [up_o (by decide)]
            exact e3
        · rintro A ⟨x62, M63⟩ ⟨e1, e2, e3, f63⟩
          replace e1 : x62 = nI (szB h n b + c) := e1
          subst e1
          show ed (f_MSquareRows_check_L173 (nI v) (nI l) (nI c) (nI b) (nI (szB h n b)) (nI (srB h n b)) (nI (szB h n b + c)) M63) _
          unfold f_MSquareRows_check_L173
          rw [nI_add, if_pos (by rw [nIl (by omega) (by omega)]; omega)]
          exact ed_mk ⟨_, rfl, e2, f63⟩
        · rintro M75 ⟨e75, f75⟩
          exact ed_mk ⟨_, rfl, nI_add b 1, e75, f75⟩
    · rintro A ⟨x7, M8⟩ ⟨e1, e2, f8⟩
      replace e1 : x7 = nI n := e1
      subst e1
      show ed (f_MSquareRows_check_L15 (nI v) (nI l) (nI c) (nI n) M8) _
      unfold f_MSquareRows_check_L15
      rw [qb M8 (TBR_fr f8 (by decide +kernel) q2), bd1_s, if_pos (by rw [nIl (by omega) (by omega)]; omega)]
      exact ed_mk ⟨_, rfl, e2, f8⟩
  apply bd1_mk
  refine ed_mono all ?_
  rintro R ⟨r1, r2⟩
  exact ed_mk ⟨r1, fr_tr (fr_mono (by decide) (by simp) r2) (fr_mono (by decide) (by simp) f2)⟩
/-- every place is written, by both alike -/
theorem plcB_all {h n c k : Nat} (hn : 0 < n) (hk : k < h + n * c) : ∃ b i, b < n ∧ i < szB h n b + c ∧ plcB h n b i = k := by
  have r : h % n < n := Nat.mod_lt _ hn
  have d := Nat.div_add_mod h n
  rw [Nat.mul_comm] at d
  by_cases a : k < h / n * n
  · have m : k % n < n := Nat.mod_lt _ hn
    have e := Nat.div_add_mod k n
    have l : k / n < h / n := by
      rw [Nat.div_lt_iff_lt_mul hn]
      exact a
    refine ⟨k % n, k / n, m, ?_, ?_⟩
    · unfold szB; omega
    · unfold plcB
      rw [if_pos (by unfold szB; omega), if_neg (by omega), Nat.mul_comm]
      exact e
  · by_cases a2 : k < h
    · refine ⟨k - h / n * n + (n - h % n), h / n, by omega, ?_, ?_⟩
      · unfold szB; rw [if_neg (by omega)]; omega
      · unfold plcB
        rw [if_pos (by unfold szB; rw [if_neg (by omega)]; omega), if_pos (Nat.le_refl _)]
        omega
    · have m : (k - h) % n < n := Nat.mod_lt _ hn
      have e := Nat.div_add_mod (k - h) n
      have l : (k - h) / n < c := by
        rw [Nat.div_lt_iff_lt_mul hn, Nat.mul_comm]
        omega
      refine ⟨(k - h) % n, szB h n ((k - h) % n) + (k - h) / n, m, by omega, ?_⟩
      unfold plcB
      rw [if_neg (Nat.not_lt.mpr (Nat.le_add_right _ _)), Nat.add_sub_cancel_left, Nat.mul_comm]
      omega
theorem wv_lt {h n c b i : Nat} {D : Nat → Nat} (hn : 0 < n) (hb : b < n) (hD : ∀ i, i < h → D i < 256) : wvB h n c D b i < 256 := by
  unfold wvB
  split
  · have := srB_h (h := h) (n := n) (b := b) hn hb
    exact hD _ (by omega)
  · exact RM_lt _ _
theorem CWA_eq {h n c : Nat} {D : Nat → Nat} {A B : Nat → Int32} (hn : 0 < n) (hD : ∀ i, i < h → D i < 256) : ∀ k, k < h + n * c → ∃ x, x < 256 ∧ CWA h n c D A n k = nI x ∧ CWA h n c D B n k = nI x := by
  have key := itN_rel (S := Nat → Int32) (T := Nat → Int32) (f := fun b A => bkA h n c D b A (szB h n b + c)) (g := fun b A => bkA h n c D b A (szB h n b + c)) (R := fun b A B => ∀ b' i, b' < b → i < szB h n b' + c → ∃ x, x < 256 ∧ A (plcB h n b' i) = nI x ∧ B (plcB h n b' i) = nI x) (s := A) (t := B) (fun b' i hb => absurd hb (Nat.not_lt_zero _)) n ?_
  · intro k hk
    obtain ⟨b, i, h1, h2, h3⟩ := plcB_all (c := c) hn hk
    have := key b i h1 h2
    rw [h3] at this
    exact this
  · intro b A B hb hR
    have inner := itN_rel (S := Nat → Int32) (T := Nat → Int32) (f := fun i A => upI A (plcB h n b i) (nI (wvB h n c D b i))) (g := fun i A => upI A (plcB h n b i) (nI (wvB h n c D b i))) (R := fun j A B => ∀ b' i, (b' < b ∧ i < szB h n b' + c ∨ b' = b ∧ i < j) → ∃ x, x < 256 ∧ A (plcB h n b' i) = nI x ∧ B (plcB h n b' i) = nI x) (s := A) (t := B) (fun b' i hz => by
        rcases hz with hz | hz
        · exact hR b' i hz.1 hz.2
        · exact absurd hz.2 (Nat.not_lt_zero _)) (szB h n b + c) (fun j A B hj hR2 b' i hz => by
        show ∃ x, x < 256 ∧ upI A (plcB h n b j) (nI (wvB h n c D b j)) (plcB h n b' i) = nI x ∧ upI B (plcB h n b j) (nI (wvB h n c D b j)) (plcB h n b' i) = nI x
        by_cases e : plcB h n b' i = plcB h n b j
        · rw [e, up_hit, up_hit]
          exact ⟨_, wv_lt hn hb hD, rfl, rfl⟩
        · rw [up_sk e, up_sk e]
          refine hR2 b' i ?_
          rcases hz with hz | hz
          · exact Or.inl hz
          · by_cases w : i = j
            · exfalso
              apply e
              rw [hz.1, w]
            · exact Or.inr ⟨hz.1, by omega⟩)
    intro b' i h1 h2
    by_cases w : b' = b
    · subst w
      exact inner b' i (Or.inr ⟨rfl, h2⟩)
    · exact inner b' i (Or.inl ⟨by omega, h2⟩)
