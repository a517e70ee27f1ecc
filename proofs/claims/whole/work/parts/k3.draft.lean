/-! THE REFERENCE DRAFTS BYTES -/
theorem s_orderM {M : im_M} {n k t : Nat} (h : im_i M 71 37 = nI n) (hn : n ≤ 120) (hk : k < n) (ht : t ≤ 8) : f_MScriptRows_order (nI k) (nI t) M = some (im_i M 87 (9 * k + t), im_setI M 71 0 0) := by
  unfold f_MScriptRows_order
  have t0 : ¬ nI t < 0 := by
    have : (nI t < 0) = (t < 0) := nIlt (c := 0) (by omega) (by omega)
    rw [this]; omega
  have t8 : nI t ≤ 8 := by
    have : (nI t ≤ 8) = (t ≤ 8) := nIl (c := 8) (by omega) (by omega)
    rw [this]; exact ht
  have k0 : ¬ nI k < 0 := by
    have : (nI k < 0) = (k < 0) := nIlt (c := 0) (by omega) (by omega)
    rw [this]; omega
  have kn : nI k < nI n := by rw [nIlt (by omega) (by omega)]; exact hk
  have e : (9 : Int32) * nI k + nI t = nI (9 * k + t) := by rw [nI_m, nI_add]
  rw [h, if_neg t0, if_pos t8, if_neg k0, if_pos kn]
  rw [if_pos (show im_i (im_setI M 71 0 0) 71 0 ≤ 0 by show (0 : Int32) ≤ 0; decide), e, gd_pos (by rw [inb_nI (by omega)]; omega), nI_clamp (by omega)]
  rfl
theorem ib_toI {v : Int64} {k : Nat} (h : k < 32) : ib v.toInt32 k = lb v k := by
  unfold ib lb
  show (v.toBitVec.signExtend 32).getLsbD k = _
  rw [BitVec.getLsbD_signExtend]
  simp [h]
  omega
theorem lb_toL {v : Int32} {k : Nat} (h : k < 32) : lb v.toInt64 k = ib v k := by
  unfold ib lb
  show (v.toBitVec.signExtend 64).getLsbD k = _
  rw [BitVec.getLsbD_signExtend]
  simp [h]
  omega
theorem lb_255 : ∀ k : Fin 64, lb 255 k.val = decide (k.val < 8) := by decide +kernel
theorem ib_255 : ∀ (b : Fin 256) (k : Fin 32), 8 ≤ k.val → ib (nI b.val) k.val = false := by decide +kernel
theorem low_byte {v : Int64} {B : Nat} (hB : B < 256) (h : ∀ t, t < 8 → lb v t = ib (nI B) t) : (v &&& 255).toInt32 = nI B := by
  apply ib_ext
  intro k hk
  have e : lb (255 : Int64) k = decide (k < 8) := lb_255 ⟨k, by omega⟩
  rw [ib_toI hk, lb_and, e]
  by_cases c : k < 8
  · rw [decide_eq_true c, h k c, Bool.and_true]
  · have := ib_255 ⟨B, hB⟩ ⟨k, hk⟩ (by show 8 ≤ k; omega)
    rw [decide_eq_false c, Bool.and_false]
    exact this.symm
theorem acc8_low {e : Nat → Int64} {t : Nat} (h : ∀ k, 1 ≤ k → k < 8 → lb (e k) t = false) : ∀ n, n < 8 → lb (acc8 e (n + 1)) t = lb (e 0) t := by
  intro n
  induction n with
  | zero =>
    intro _
    show lb (acc8 e 0 ||| e 0) t = _
    rw [lb_or, show acc8 e 0 = 0 from rfl, lb_0, Bool.false_or]
  | succ n ih =>
    intro hn
    show lb (acc8 e (n + 1) ||| e (n + 1)) t = _
    rw [lb_or, ih (by omega), h (n + 1) (by omega) (by omega), Bool.or_false]
theorem s_byteOf {M : im_M} {n a s i B : Nat} (h37 : im_i M 71 37 = nI n) (hn : n ≤ 120) (ha : a < n) (hs : s ≤ 200) (es : im_i M 87 (9 * a + 8) = nI s) (hi : i < s) (hB : B < 256) (eB : im_i M 88 (200 * a + i) = nI B) : f_M_byteOf (nI a) (nI i) M = some (nI B, im_setI M 71 0 0) := by
  unfold f_M_byteOf f_MScriptRows_data
  have k0 : ¬ nI a < 0 := by
    have : (nI a < 0) = (a < 0) := nIlt (c := 0) (by omega) (by omega)
    rw [this]; omega
  have kn : nI a < nI n := by rw [nIlt (by omega) (by omega)]; exact ha
  rw [h37, if_neg k0, if_pos kn, iZ_nI (n := i)]
  have d := eb_d (M := im_setI M 71 0 0) (z := (i : Int)) (s := s) (a := a) (by omega) hs (by omega) rfl es
  rw [d, bd1_s, bd2_s]
  have e0 : e8 (im_i (im_setI M 71 0 0) 88) (200 * a) s (i : Int) 0 = (nI B).toInt64 <<< (Int32.toInt64 ((8 : Int32) * nI 0) &&& 63 : Int64) := by
    unfold e8
    rw [if_pos (by omega)]
    show (im_i M 88 (200 * a + ((i : Int) + ((0 : Nat) : Int)).toNat)).toInt64 <<< _ = _
    rw [show ((i : Int) + ((0 : Nat) : Int)).toNat = i by omega, eB]
  congr 2
  refine low_byte hB (fun t ht => ?_)
  rw [acc8_low (fun k k1 k8 => ?_) 7 (by omega), e0]
  · have : (Int32.toInt64 ((8 : Int32) * nI 0) &&& 63 : Int64) = lZ ((0 : Nat) : Int) &&& 63 := rfl
    rw [this, lb_shl (by omega) (by omega), decide_eq_true (by omega), Bool.true_and, Nat.sub_zero, lb_toL (by omega)]
  · unfold e8
    by_cases z : 0 ≤ (i : Int) + (k : Int) ∧ (i : Int) + (k : Int) < (s : Int)
    · rw [if_pos z]
      have e8k : (Int32.toInt64 ((8 : Int32) * nI k) &&& 63 : Int64) = lZ ((8 * k : Nat) : Int) &&& 63 := by
        rw [nI_m]
        show (nI (8 * k)).toInt64 &&& 63 = _
        rw [iZ_nI, iZ_l (by omega)]
      rw [e8k, lb_shl (by omega) (by omega), decide_eq_false (by omega), Bool.false_and]
    · rw [if_neg z, lb_0]
/-- what is drafted -/
def DFT (M : im_M) (n : Nat) (B : Nat → Nat) : Prop := im_i M 89 7 = nI n ∧ n ≤ 4096 ∧ ∀ i, i < n → B i < 256 ∧ im_i M 92 i = nI (B i)
theorem DFT_fr {A : Nat} {F : List (Nat × Nat)} {M M' : im_M} {n : Nat} {B : Nat → Nat} (h : fr A F M M') (c : clr A F [92] [(89, 7)] [] = true) (q : DFT M n B) : DFT M' n B := by
  unfold DFT at q ⊢
  rw [clr_a c h (a := 92) (by decide), clr_f c h (a := 89) (k := 7) (by decide)]
  exact q
theorem s_draft {M : im_M} {n u : Nat} {B : Nat → Nat} (h : DFT M n B) (hn : n < 4096) (hu : u < 256) (eu : B n = u) : ed (f_M_draft (nI u) M) (fun R => fr (2 ^ 92) [(89, 0), (89, 7)] M R ∧ DFT R (n + 1) B) := by
  obtain ⟨h2, _, hB⟩ := h
  unfold f_M_draft f_MDotRows_write
  have t0 : ((if (1 : Int32) < 1 then 1 else (if (1 : Int32) ≤ 8 then 0 else 1)) : Int32) = 0 := by decide
  rw [t0]
  obtain ⟨N, hN⟩ : ∃ N, N = im_setI M 89 0 0 := ⟨_, rfl⟩
  have fN : fr 0 [(89, 0)] M N := by rw [hN]; exact fr_F (by decide) fr_refl
  have z0 : im_i N 89 0 = 0 := by rw [hN]; rfl
  have z2 : im_i N 89 7 = nI n := (fN.1 89 7 (by decide) (by decide)).trans h2
  rw [← hN]
  clear hN
  have e1 : nI n + 1 = nI (n + 1) := nI_add n 1
  have l1 : nI (n + 1) ≤ 4096 := by
    have : (nI (n + 1) ≤ 4096) = (n + 1 ≤ 4096) := nIl (c := 4096) (by omega) (by omega)
    rw [this]; omega
  rw [z0, if_pos (by decide), z2, e1, if_pos l1]
  have w := wr_byte ⟨u, hu⟩
  replace w : Int64.toInt32 (((Int32.toInt64 (nI u)) >>> (Int32.toInt64 ((8 : Int32) * 0) &&& 63) : Int64) &&& 255) = nI u := w
  have L : lp (uc2 (f_MDotRows_write_L46 1 (Int32.toInt64 (nI u)))) (0, N) = some (im_setI (im_setI N 92 n (nI u)) 89 7 (nI (n + 1))) := by
    refine lp_l (s' := ((1 : Int32), im_setI (im_setI N 92 n (nI u)) 89 7 (nI (n + 1)))) ?_ (lp_r ?_)
    · show f_MDotRows_write_L46 1 (Int32.toInt64 (nI u)) 0 N = _
      unfold f_MDotRows_write_L46
      rw [if_neg (by decide), z2, gd_pos (by rw [inb_nI (by omega)]; omega), nI_clamp (by omega), w]
      show some (Sum.inl ((0 : Int32) + 1, im_setI (im_setI N 92 n (nI u)) 89 7 (im_i N 89 7 + 1))) = _
      rw [z2, e1]
      rfl
    · show f_MDotRows_write_L46 1 (Int32.toInt64 (nI u)) 1 _ = _
      unfold f_MDotRows_write_L46
      rw [if_pos (by decide)]
  rw [L, bd1_s, bd2_s]
  refine ed_mk ⟨fr_F (by decide) (fr_I (by decide) (fr_mono (by decide) (by decide) fN)), rfl, by omega, fun i hi => ?_⟩
  show B i < 256 ∧ (if i = n then nI u else im_i N 92 i) = nI (B i)
  by_cases e : i = n
  · rw [if_pos e, e, eu]
    exact ⟨hu, rfl⟩
  · rw [if_neg e, fN.1 92 i (by decide) (by simp)]
    exact hB i (by omega)
/-- an order of the reference: its numbers, its bytes -/
def OM (M : im_M) (k : Nat) (s : Nat) (B : Nat → Nat) : Prop := (∃ n : Nat, im_i M 71 37 = nI n ∧ n ≤ 120 ∧ k < n) ∧ s ≤ 200 ∧ im_i M 87 (9 * k + 8) = nI s ∧ ∀ i, i < s → B i < 256 ∧ im_i M 88 (200 * k + i) = nI (B i)
theorem OM_fr {A : Nat} {F : List (Nat × Nat)} {M M' : im_M} {k s : Nat} {B : Nat → Nat} (h : fr A F M M') (c : clr A F [87, 88] [(71, 37)] [] = true) (q : OM M k s B) : OM M' k s B := by
  unfold OM at q ⊢
  rw [clr_a c h (a := 87) (by decide), clr_a c h (a := 88) (by decide), clr_f c h (a := 71) (k := 37) (by decide)]
  exact q
theorem OM_byte {M : im_M} {k s i : Nat} {B : Nat → Nat} (q : OM M k s B) (hi : i < s) : f_M_byteOf (nI k) (nI i) M = some (nI (B i), im_setI M 71 0 0) := by
  obtain ⟨⟨n, h37, hn, hk⟩, hs, es, hB⟩ := q
  exact s_byteOf h37 hn hk hs es hi (hB i hi).1 (hB i hi).2
theorem OM_size {M : im_M} {k s : Nat} {B : Nat → Nat} (q : OM M k s B) : f_MScriptRows_order (nI k) 8 M = some (nI s, im_setI M 71 0 0) := by
  obtain ⟨⟨n, h37, hn, hk⟩, hs, es, hB⟩ := q
  rw [show (8 : Int32) = nI 8 from rfl, s_orderM h37 hn hk (by omega), es]
theorem s_draftData {M : im_M} {k s : Nat} {B : Nat → Nat} (q : OM M k s B) (h7 : im_i M 89 7 = 0) : ed (f_M_draftData (nI k) M) (fun R => fr (2 ^ 92) [(71, 0), (89, 0), (89, 7)] M R ∧ DFT R s B) := by
  have hs := q.2.1
  unfold f_M_draftData
  rw [OM_size q, bd2_s]
  have f0 : fr 0 [(71, 0)] M (im_setI M 71 0 0) := fr_F (by decide) fr_refl
  apply bd1_mk
  refine ed_mono (lp_inv (fun m (t : Int32 × im_M) => ∃ i : Nat, i + m = s ∧ t.1 = nI i ∧ fr (2 ^ 92) [(71, 0), (89, 0), (89, 7)] M t.2 ∧ DFT t.2 i B) (Q := fun R => fr (2 ^ 92) [(71, 0), (89, 0), (89, 7)] M R ∧ DFT R s B) ?_ (k := s) ⟨0, by omega, rfl, fr_mono (by decide) (by decide) f0, h7, by omega, fun i hi => absurd hi (by omega)⟩) (fun R h => ed_mk h)
  rintro m ⟨x5, M6⟩ ⟨i, hi, e1, f, h⟩
  replace e1 : x5 = nI i := e1
  replace f : fr (2 ^ 92) [(71, 0), (89, 0), (89, 7)] M M6 := f
  replace h : DFT M6 i B := h
  subst e1
  show ed (f_M_draftData_L13 (nI k) (nI s) (nI i) M6) _
  unfold f_M_draftData_L13
  rw [if_nIl (by omega) (by omega)]
  by_cases c : s ≤ i
  · rw [if_pos c]
    obtain rfl : i = s := by omega
    exact lpo_r ⟨f, h⟩
  · have q6 := OM_fr f (by decide +kernel) q
    have g0 : fr 0 [(71, 0)] M6 (im_setI M6 71 0 0) := fr_F (by decide) fr_refl
    rw [if_neg c, OM_byte q6 (by omega), bd2_s]
    apply bd1_mk
    refine ed_mono (s_draft (u := B i) (DFT_fr g0 (by decide +kernel) h) (by omega) (q6.2.2.2 i (by omega)).1 rfl) ?_
    rintro R ⟨fR, hR⟩
    exact lpo_l (m - 1) (by omega) ⟨i + 1, by omega, nI_add i 1, fr_tr (fr_mono (by decide) (by decide) fR) (fr_tr (fr_mono (by decide) (by decide) g0) f), hR⟩
