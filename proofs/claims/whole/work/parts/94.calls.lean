/-! CALLS: FEED, FONT, FOUND -/
theorem b255 {j : Nat} (hj : j < 64) : (255#64).getLsbD j = decide (j < 8) := (by decide +kernel : ∀ j : Fin 64, (255#64).getLsbD j.val = decide (j.val < 8)) ⟨j, hj⟩
theorem b255i {j : Nat} (hj : j < 32) : (255#32).getLsbD j = decide (j < 8) := (by decide +kernel : ∀ j : Fin 32, (255#32).getLsbD j.val = decide (j.val < 8)) ⟨j, hj⟩
theorem nar_b {x : Int32} : vp_nar .byte x = x.toInt8.toInt32 := rfl
/-- the low byte of an int, as a byte and back -/
theorem byte_255 {x : Int32} : (vp_nar .byte (x.toInt8.toInt32)) &&& 255 = x &&& 255 := by
  apply ib_ext
  intro j hj
  rw [nar_b, ib_and, ib_and]
  have e : ib 255 j = decide (j < 8) := b255i hj
  rw [e]
  by_cases h : j < 8
  · simp only [h, decide_true, Bool.and_true]
    unfold ib
    show (BitVec.signExtend 32 (BitVec.signExtend 8 (BitVec.signExtend 32 (BitVec.signExtend 8 x.toBitVec)))).getLsbD j = x.toBitVec.getLsbD j
    simp only [BitVec.getLsbD_signExtend, hj, h, decide_true, if_true, Bool.true_and]
  · simp [h]
theorem byte_shift {v : Int64} {k : Nat} (hk : k < 8) : Int64.toInt32 ((v >>> (lZ ((8 * k : Nat) : Int) &&& 63) : Int64) &&& 255) = (Int64.toInt32 ((Int64.toUInt64 v >>> ((lZ ((8 * k : Nat) : Int)).toUInt64 &&& Int64.toUInt64 63)).toInt64)) &&& 255 := by
  apply ib_ext
  intro j hj
  rw [ib_and]
  have e : ib 255 j = decide (j < 8) := b255i hj
  have e2 : ∀ z : Int64, ib z.toInt32 j = lb z j := by
    intro z
    unfold ib lb
    show (BitVec.signExtend 32 z.toBitVec).getLsbD j = z.toBitVec.getLsbD j
    simp only [BitVec.getLsbD_signExtend, hj, show j < 64 by omega, decide_true, if_true, Bool.true_and]
  rw [e, e2, e2, lb_and, lb_ushr (by omega)]
  have e3 : lb 255 j = decide (j < 8) := b255 (by omega)
  rw [e3]
  by_cases h : j < 8
  · simp only [h, decide_true, Bool.and_true]
    rw [lA63 (by omega)]
    unfold lb
    show (v.toBitVec.sshiftRight' ((lZ ((8 * k : Nat) : Int)).toBitVec.smod 64)).getLsbD j = _
    unfold BitVec.sshiftRight'
    rw [sm64 (by omega), BitVec.getLsbD_sshiftRight]
    have h1 : ¬ 64 ≤ j := by omega
    have h2 : 8 * k + j < 64 := by omega
    simp [h1, h2]
  · simp [h]
theorem sh8 {k : Nat} (hk : k < 8) : Int32.toInt64 ((8 : Int32) * nI k) = lZ ((8 * k : Nat) : Int) := by
  rw [nI_n, nI_mul, iZ_nI, iZ_l (by omega)]
/-- what append writes -/
def fdb (v : Int64) (k : Nat) : Int32 := vp_nar .byte ((Int32.toInt8 (Int64.toInt32 ((Int64.toUInt64 v >>> ((lZ ((8 * k : Nat) : Int)).toUInt64 &&& Int64.toUInt64 63)).toInt64))).toInt32)
def fdH (M : im_M) (v : Int64) (s : Nat) : Nat → im_M
  | 0 => M
  | k + 1 => im_setI (fdH M v s k) 2 (s + k) (fdb v k)
theorem fdH_i {M : im_M} {v : Int64} {s : Nat} : ∀ k b j, im_i (fdH M v s k) b j = if b = 2 ∧ s ≤ j ∧ j < s + k then fdb v (j - s) else im_i M b j := by
  intro k
  induction k with
  | zero => intro b j; rw [if_neg (by omega)]; rfl
  | succ k ih =>
    intro b j
    show im_i (im_setI (fdH M v s k) 2 (s + k) (fdb v k)) b j = _
    rw [mi_I, ih]
    by_cases h1 : b = 2
    · subst h1
      by_cases h2 : j = s + k
      · subst h2
        rw [if_pos rfl, if_pos rfl, if_pos ⟨rfl, by omega, by omega⟩]
        congr 1
        omega
      · rw [if_pos rfl, if_neg h2]
        by_cases h3 : s ≤ j ∧ j < s + k
        · rw [if_pos ⟨rfl, h3⟩, if_pos ⟨rfl, h3.1, by omega⟩]
        · rw [if_neg (by omega), if_neg (by omega)]
    · rw [if_neg h1, if_neg (by omega), if_neg (by omega)]
theorem fdH_l {M : im_M} {v : Int64} {s : Nat} : ∀ k, im_l (fdH M v s k) = im_l M := by
  intro k
  induction k with
  | zero => rfl
  | succ k ih => exact ih
theorem e_feed {M : im_M} {v : Int64} {n s : Nat} (hn : n ≤ 8) (hs : s + n ≤ 4096) (es : im_i M 1 1 = nI s) : f_HTape_append (nI n) v M = some (nI (s + n), im_setI (fdH M v s n) 1 1 (nI (s + n))) := by
  unfold f_HTape_append
  have h1 : im_i M 1 1 + nI n ≤ 4096 := by rw [es, nI_add]; exact nI_le (b := 4096) hs (by decide)
  rw [if_pos h1]
  have e : lp (uc2 (f_HTape_append_L17 (nI n) v)) (0, M) = some (fdH M v s n) := by
    refine lp_row (fun k => (nI k, fdH M v s k)) n (fun k hk => ?_) ?_
    · show f_HTape_append_L17 (nI n) v (nI k) (fdH M v s k) = _
      unfold f_HTape_append_L17
      have e1 : im_i (fdH M v s k) 1 1 = nI s := by rw [fdH_i, if_neg (by omega), es]
      rw [if_neg (nI_ge hk (by omega)), e1, nI_add, gd_pos (by rw [inb_nI (by omega)]; omega), nI_clamp (by omega), nI_1, sh8 (by omega)]
      rfl
    · show f_HTape_append_L17 (nI n) v (nI n) (fdH M v s n) = _
      unfold f_HTape_append_L17
      rw [if_pos (nI_le (Nat.le_refl n) (by omega))]
  rw [e]
  have e1 : im_i (fdH M v s n) 1 1 + nI n = nI (s + n) := by rw [fdH_i, if_neg (by omega), es, nI_add]
  show some (im_i (fdH M v s n) 1 1 + nI n, im_setI (fdH M v s n) 1 1 (im_i (fdH M v s n) 1 1 + nI n)) = _
  rw [e1]
/-- what the reference's feed writes -/
def fdt (v : Int64) (k : Nat) : Int32 := Int64.toInt32 ((v >>> (lZ ((8 * k : Nat) : Int) &&& 63) : Int64) &&& 255)
def fdM (M : im_M) (v : Int64) (s : Nat) : Nat → im_M
  | 0 => M
  | k + 1 => im_setI (im_setI (fdM M v s k) 70 (s + k) (fdt v k)) 69 2 (nI (s + k + 1))
theorem fdM_s {M : im_M} {v : Int64} {s : Nat} (es : im_i M 69 2 = nI s) : ∀ k, im_i (fdM M v s k) 69 2 = nI (s + k) := by
  intro k
  cases k with
  | zero => exact es
  | succ k => rfl
theorem fdM_i {M : im_M} {v : Int64} {s : Nat} : ∀ k b j, ¬ (b = 69 ∧ j = 2) → im_i (fdM M v s k) b j = if b = 70 ∧ s ≤ j ∧ j < s + k then fdt v (j - s) else im_i M b j := by
  intro k
  induction k with
  | zero => intro b j _; rw [if_neg (by omega)]; rfl
  | succ k ih =>
    intro b j hb
    show im_i (im_setI (im_setI (fdM M v s k) 70 (s + k) (fdt v k)) 69 2 (nI (s + k + 1))) b j = _
    rw [mi_I, mi_I, ih b j hb]
    by_cases h0 : b = 69
    · subst h0
      rw [if_pos rfl, if_neg (fun q => hb ⟨rfl, q⟩), if_neg (by omega), if_neg (by omega), if_neg (by omega)]
    · rw [if_neg h0]
      by_cases h1 : b = 70
      · subst h1
        by_cases h2 : j = s + k
        · subst h2
          rw [if_pos rfl, if_pos rfl, if_pos ⟨rfl, by omega, by omega⟩]
          congr 1
          omega
        · rw [if_pos rfl, if_neg h2]
          by_cases h3 : s ≤ j ∧ j < s + k
          · rw [if_pos ⟨rfl, h3⟩, if_pos ⟨rfl, h3.1, by omega⟩]
          · rw [if_neg (by omega), if_neg (by omega)]
      · rw [if_neg h1, if_neg (by omega), if_neg (by omega)]
theorem fdM_l {M : im_M} {v : Int64} {s : Nat} : ∀ k, im_l (fdM M v s k) = im_l M := by
  intro k
  induction k with
  | zero => rfl
  | succ k ih => exact ih
theorem e_feedM {M : im_M} {v : Int64} {n s : Nat} (hn0 : 1 ≤ n) (hn : n ≤ 8) (hs : s + n ≤ 4096) (es : im_i M 69 2 = nI s) : f_M_feed (nI n) v M = some (nI (s + n), fdM (im_setI M 69 0 0) v s n) := by
  have z : ((if nI n < 1 then 1 else (if nI n ≤ 8 then 0 else 1)) : Int32) = 0 := by
    have z1 : ¬ nI n < 1 := nI_nlt (b := 1) hn0 (by omega)
    have z2 : nI n ≤ 8 := nI_le (b := 8) hn (by decide)
    rw [if_neg z1, if_pos z2]
  have es2 : im_i (im_setI M 69 0 0) 69 2 = nI s := es
  have h1 : im_i (im_setI M 69 0 0) 69 2 + nI n ≤ 4096 := by rw [es2, nI_add]; exact nI_le (b := 4096) hs (by decide)
  unfold f_M_feed
  rw [z, if_pos h1, if_pos (by show (0 : Int32) ≤ 0; decide)]
  have e : lp (uc2 (f_M_feed_L46 (nI n) v)) (0, im_setI M 69 0 0) = some (fdM (im_setI M 69 0 0) v s n) := by
    refine lp_row (fun k => (nI k, fdM (im_setI M 69 0 0) v s k)) n (fun k hk => ?_) ?_
    · show f_M_feed_L46 (nI n) v (nI k) (fdM (im_setI M 69 0 0) v s k) = _
      unfold f_M_feed_L46
      have e1 : im_i (fdM (im_setI M 69 0 0) v s k) 69 2 = nI (s + k) := fdM_s es2 k
      rw [if_neg (nI_ge hk (by omega)), e1, gd_pos (by rw [inb_nI (by omega)]; omega), nI_clamp (by omega), nI_1, sh8 (by omega)]
      have e2 : ∀ (x : Int32), im_i (im_setI (fdM (im_setI M 69 0 0) v s k) 70 (s + k) x) 69 2 + 1 = nI (s + k + 1) := by
        intro x
        show im_i (fdM (im_setI M 69 0 0) v s k) 69 2 + 1 = _
        rw [e1, nI_1]
      rw [e2]
      rfl
    · show f_M_feed_L46 (nI n) v (nI n) (fdM (im_setI M 69 0 0) v s n) = _
      unfold f_M_feed_L46
      rw [if_pos (nI_le (Nat.le_refl n) (by omega))]
  rw [e]
  show some (im_i (fdM (im_setI M 69 0 0) v s n) 69 2, _) = _
  rw [fdM_s es2 n]
theorem isB_nar {x : Int32} : isB (vp_nar .byte x) := ⟨x.toInt8.toInt, x.toInt8.le_toInt, x.toInt8.toInt_lt, by rfl⟩
theorem c_feed {w : Bool} {M : im_M} {p0 : Int32} {p1 : Int64} (q : RL w M) (h1 : ¬ p0 < 1) (h2 : p0 ≤ 8) : ed (f_H_feed p0 p1 M) (fun r => ed (f_M_feed p0 p1 (im_setL r.2 138 0 r.1.toInt64)) (ans w 0)) := by
  obtain ⟨⟨s, hs, e1, e2, e3⟩, q2⟩ := q
  have h0 : ¬ p0 < 0 := by
    obtain ⟨z, rfl, z1, z2⟩ := iZ_of p0
    rw [iZ_n, iZ_lt (by omega) (by decide)] at h1
    rw [iZ_n, iZ_lt (by omega) (by decide)]
    have : (1 : Int) ≤ z := by
      have h3 : ¬ z < 1 := h1
      omega
    show ¬ z < 0
    omega
  obtain ⟨n, rfl, hn⟩ := iz3 h0 (n := 8) h2 (by omega)
  have hn0 : 1 ≤ n := by
    apply Decidable.byContradiction
    intro c
    exact h1 (nI_lt (b := 1) (by omega) (by decide))
  by_cases h : s + n ≤ 4096
  · refine ⟨(nI (s + n), im_setI (fdH M p1 s n) 1 1 (nI (s + n))), ?_, ?_⟩
    · unfold f_H_feed
      rw [if_neg h1, if_pos h2, e_feed hn h e1]
      rfl
    · have es : im_i (im_setL (im_setI (fdH M p1 s n) 1 1 (nI (s + n))) 138 0 (nI (s + n)).toInt64) 69 2 = nI s := by
        show im_i (fdH M p1 s n) 69 2 = _
        rw [fdH_i, if_neg (by omega), e2]
      refine ⟨_, e_feedM hn0 hn h es, ?_, fun _ => ?_, ?_⟩
      · show im_i (fdM _ p1 s n) 69 0 = 0
        rw [fdM_i n 69 0 (by omega), if_neg (by omega)]
        rfl
      · show im_l (fdM _ p1 s n) 138 0 = _
        rw [fdM_l]
        rfl
      · have hf : fr (2 ^ 138 ||| 2 ^ 2 ||| 2 ^ 70) [(1, 1), (69, 0), (69, 2)] M (fdM (im_setI (im_setL (im_setI (fdH M p1 s n) 1 1 (nI (s + n))) 138 0 (nI (s + n)).toInt64) 69 0 0) p1 s n) := fr_tr (fr_mono (by decide) (by decide) (f_M_feed_fr (e_feedM hn0 hn h es))) (fr_L (by decide) (fr_mono (by decide) (by decide) (f_HTape_append_fr (e_feed hn h e1))))
        refine RL_T hf ⟨s + n, h, ?_, ?_, ?_⟩ ⟨⟨s, hs, e1, e2, e3⟩, q2⟩
        · rw [fdM_i n 1 1 (by omega), if_neg (by omega)]
          rfl
        · exact fdM_s (M := im_setI (im_setL (im_setI (fdH M p1 s n) 1 1 (nI (s + n))) 138 0 (nI (s + n)).toInt64) 69 0 0) es n
        · intro k hk
          show _ ∧ isB (im_i (fdM _ p1 s n) 2 k)
          rw [fdM_i n 70 k (by omega), fdM_i n 2 k (by omega), if_neg (show ¬ (2 = 70 ∧ s ≤ k ∧ k < s + n) by omega)]
          have e70 : im_i (im_setI (im_setL (im_setI (fdH M p1 s n) 1 1 (nI (s + n))) 138 0 (nI (s + n)).toInt64) 69 0 0) 70 k = im_i M 70 k := by
            show im_i (fdH M p1 s n) 70 k = _
            rw [fdH_i, if_neg (by omega)]
          have e2' : im_i (im_setI (im_setL (im_setI (fdH M p1 s n) 1 1 (nI (s + n))) 138 0 (nI (s + n)).toInt64) 69 0 0) 2 k = if s ≤ k ∧ k < s + n then fdb p1 (k - s) else im_i M 2 k := by
            show im_i (fdH M p1 s n) 2 k = _
            rw [fdH_i]
            by_cases h9 : s ≤ k ∧ k < s + n
            · rw [if_pos ⟨rfl, h9⟩, if_pos h9]
            · rw [if_neg (by omega), if_neg h9]
          rw [e70, e2']
          by_cases h9 : s ≤ k ∧ k < s + n
          · rw [if_pos ⟨rfl, h9⟩, if_pos h9]
            unfold fdt fdb
            refine ⟨?_, isB_nar⟩
            rw [byte_255, byte_shift (by omega)]
          · rw [if_neg (by omega), if_neg h9, (e3 k (by omega)).1]
            exact ⟨rfl, (e3 k (by omega)).2⟩
  · have h3 : ¬ (nI s + nI n ≤ (4096 : Int32)) := by
      rw [nI_add]
      exact fun z => h ((nI_leI (b := 4096) (by omega) (by decide)).mp z)
    refine ⟨(-1, M), ?_, (-1, im_setI (im_setL M 138 0 (-1 : Int32).toInt64) 69 0 0), ?_, rfl, fun _ => rfl, RL_0 (fr0_69 (fr0_o fr0_refl)) ⟨⟨s, hs, e1, e2, e3⟩, q2⟩⟩
    · simp [f_H_feed, f_HTape_append, h1, h2, e1, h3, bd2]
    · have es : im_i (im_setI (im_setL M 138 0 (-1 : Int32).toInt64) 69 0 0) 69 2 = nI s := e2
      have z : ((if nI n < 1 then 1 else (if nI n ≤ 8 then 0 else 1)) : Int32) = 0 := by rw [if_neg h1, if_pos h2]
      unfold f_M_feed
      rw [z, es, if_neg h3, if_pos (by show (0 : Int32) ≤ 0; decide)]
theorem n_feed {w : Bool} {M : im_M} {p0 : Int32} {p1 : Int64} (q : RL w M) (h : ¬ (¬ p0 < 1 ∧ p0 ≤ 8)) : ed (f_M_feed p0 p1 (im_noX M)) (ans w 1) := by
  refine ⟨(0, im_setI (im_noX M) 69 0 1), ?_, rfl, fun k => absurd k (by decide), RL_0 (fr0_69 fr0_X) q⟩
  by_cases h1 : p0 < 1
  · simp [f_M_feed, h1, mi_I]
  · have h2 : ¬ p0 ≤ 8 := fun z => h ⟨h1, z⟩
    simp [f_M_feed, h1, h2, mi_I]
theorem af_l {M : im_M} {a f : Nat} {x : Int32} : ∀ k, im_l (af_M M a f x k) = im_l M := by
  intro k
  induction k with
  | zero => rfl
  | succ k ih => exact ih
theorem e_fill1 {M : im_M} {f t : Nat} {x : Int32} (hf : f ≤ t) (ht : t ≤ 32768) : f_Arrays_fill_1 (nI f) (nI t) x M = some (af_M M 58 f x (t - f)) := by
  unfold f_Arrays_fill_1 f_Arrays_rangeCheck
  have z1 : nI f ≤ nI t := nI_le hf (by omega)
  have z2 : (0 : Int32) ≤ nI f := nI_pos' (by omega)
  have z3 : nI t ≤ 32768 := nI_le (b := 32768) ht (by decide)
  rw [if_pos z1, if_pos z2, if_pos z3]
  have e : lp (uc2 (f_Arrays_fill_1_L10 (nI t) x)) (nI f, M) = some (af_M M 58 f x (t - f)) := by
    refine lp_row (fun k => (nI (f + k), af_M M 58 f x k)) (t - f) (fun k hk => ?_) ?_
    · show f_Arrays_fill_1_L10 (nI t) x (nI (f + k)) (af_M M 58 f x k) = _
      unfold f_Arrays_fill_1_L10
      rw [if_neg (nI_ge (by omega) (by omega)), gd_pos (by rw [inb_nI (by omega)]; omega), nI_clamp (by omega), nI_1]
      rfl
    · show f_Arrays_fill_1_L10 (nI t) x (nI (f + (t - f))) (af_M M 58 f x (t - f)) = _
      unfold f_Arrays_fill_1_L10
      rw [if_pos (nI_le (by omega) (by omega))]
  show bd1 (lp (uc2 (f_Arrays_fill_1_L10 (nI t) x)) (nI f, M)) _ = _
  rw [e]
  rfl
theorem e_fontM {M : im_M} {f C : Nat} (hC : C = 8192) (hf : f ≤ 3) : lp (uc2 (f_MDotRows_font_L92 (nI f))) (0, M) = some (af_M M 94 (8192 * f) 0 C) := by
  refine lp_row (fun k => (nI k, af_M M 94 (8192 * f) 0 k)) C (fun k hk => ?_) ?_
  · show f_MDotRows_font_L92 (nI f) (nI k) (af_M M 94 (8192 * f) 0 k) = _
    unfold f_MDotRows_font_L92
    have e1 : (8192 : Int32) * nI f + nI k = nI (8192 * f + k) := by rw [nI_n, nI_mul, nI_add]
    have z : ¬ (8192 : Int32) ≤ nI k := nI_ge (b := 8192) (by omega) (by decide)
    rw [if_neg z, e1, gd_pos (by rw [inb_nI (by omega)]; omega), nI_clamp (by omega), nI_1]
    rfl
  · show f_MDotRows_font_L92 (nI f) (nI C) (af_M M 94 (8192 * f) 0 C) = _
    unfold f_MDotRows_font_L92
    have z : (8192 : Int32) ≤ nI C := nI_le (a := 8192) (by omega) (by omega)
    rw [if_pos z]
/-- one of the sizes set -/
theorem set3 {M : im_M} {a k : Nat} {x y z : Int32} (j : Nat) : im_i (im_setI (im_setI (im_setI M a k x) a (k + 1) y) a (k + 2) z) a j = if j = k + 2 then z else if j = k + 1 then y else if j = k then x else im_i M a j := by
  simp [mi_I]
theorem iz1 {p : Int32} (h1 : ¬ p < 1) {n : Nat} (h2 : ¬ nI n < p) (hn : n < 2147483648) : ∃ a : Nat, p = nI a ∧ a ≤ n ∧ 1 ≤ a := by
  obtain ⟨z, e, z1, z2⟩ := iZ_of p
  subst e
  rw [iZ_n, iZ_lt (by omega) (by decide)] at h1
  rw [iZ_nI, iZ_lt (by omega) (by omega)] at h2
  have h3 : ¬ z < 1 := h1
  refine ⟨z.toNat, ?_, by omega, by omega⟩
  rw [iZ_nI, Int.toNat_of_nonneg (by omega)]
theorem isn0 {p : Int32} {a b : Int32} {M : im_M} (h1 : ¬ p < a) (h2 : p ≤ b) : f_MDotRows_isNot p a b M = some 0 := by
  simp [f_MDotRows_isNot, jn0, h1, h2]
theorem isn1 {p : Int32} {a b : Int32} {M : im_M} (h : ¬ (¬ p < a ∧ p ≤ b)) : f_MDotRows_isNot p a b M = some 1 := by
  by_cases h1 : p < a
  · simp [f_MDotRows_isNot, jn0, h1]
  · have h2 : ¬ p ≤ b := fun z => h ⟨h1, z⟩
    simp [f_MDotRows_isNot, jn0, h1, h2]
theorem c_font {w : Bool} {M : im_M} {p0 p1 p2 p3 : Int32} (q : RL w M) (h1 : ¬ p0 < 0) (h2 : ¬ 3 < p0) (h3 : ¬ p1 < 1) (h4 : ¬ 32 < p1) (h5 : ¬ p2 < 1) (h6 : ¬ 32 < p2) (h7 : ¬ p3 < 0) (h8 : p3 ≤ 32) : ed (f_H_font p0 p1 p2 p3 M) (fun M1 => ed (f_M_font p0 p1 p2 p3 M1) (fun r => im_i r 69 0 = 0 ∧ RL w r)) := by
  obtain ⟨f1, f2, f3⟩ := q.2.1
  obtain ⟨a, rfl, ha⟩ := iz3 h1 (n := 3) (Int32.not_lt.mp h2) (by omega)
  obtain ⟨b, rfl, hb, hb1⟩ := iz1 h3 (n := 32) h4 (by omega)
  obtain ⟨c, rfl, hc, hc1⟩ := iz1 h5 (n := 32) h6 (by omega)
  obtain ⟨g, rfl, hg⟩ := iz3 h7 (n := 32) h8 (by omega)
  have e0 : (3 : Int32) * nI a = nI (3 * a) := by rw [nI_n, nI_mul]
  have e1 : (3 : Int32) * nI a + 1 = nI (3 * a + 1) := by rw [nI_n, nI_n, nI_mul, nI_add]
  have e2 : (3 : Int32) * nI a + 2 = nI (3 * a + 2) := by rw [nI_n, nI_n, nI_mul, nI_add]
  have g0 : inb ((3 : Int32) * nI a) 12 := by rw [e0, inb_nI (by omega)]; omega
  have g1 : inb ((3 : Int32) * nI a + 1) 12 := by rw [e1, inb_nI (by omega)]; omega
  have g2 : inb ((3 : Int32) * nI a + 2) 12 := by rw [e2, inb_nI (by omega)]; omega
  have c0 : ((3 : Int32) * nI a).toNatClampNeg = 3 * a := by rw [e0, nI_clamp (by omega)]
  have c1 : ((3 : Int32) * nI a + 1).toNatClampNeg = 3 * a + 1 := by rw [e1, nI_clamp (by omega)]
  have c2 : ((3 : Int32) * nI a + 2).toNatClampNeg = 3 * a + 2 := by rw [e2, nI_clamp (by omega)]
  have s1 : nI a * 256 * 32 = nI (8192 * a) := by
    rw [nI_n, nI_n, nI_mul, nI_mul]
    congr 1
    show a * 256 * 32 = _
    omega
  obtain ⟨C, hC⟩ : ∃ C : Nat, C = 8192 := ⟨_, rfl⟩
  have s2 : (nI a + 1) * 256 * 32 = nI (8192 * a + C) := by
    rw [nI_1, nI_n, nI_n, nI_mul, nI_mul]
    congr 1
    show (a + 1) * 256 * 32 = _
    omega
  have k1 : f_H_font (nI a) (nI b) (nI c) (nI g) M = some (af_M (im_setI (im_setI (im_setI M 57 (3 * a) (nI b)) 57 (3 * a + 1) (nI c)) 57 (3 * a + 2) (nI g)) 58 (8192 * a) 0 C) := by
    have e := e_fill1 (M := im_setI (im_setI (im_setI M 57 (3 * a) (nI b)) 57 (3 * a + 1) (nI c)) 57 (3 * a + 2) (nI g)) (f := 8192 * a) (t := 8192 * a + C) (x := 0) (by omega) (by omega)
    have e9 : 8192 * a + C - 8192 * a = C := by omega
    rw [e9] at e
    simp only [f_H_font, f_HPen_newFont, h1, h2, h3, h4, h5, h6, h7, h8, if_true, if_false, gd_pos g0, gd_pos g1, gd_pos g2, c0, c1, c2, s1, s2, e, bd1, Option.bind]
  refine ⟨_, k1, ?_⟩
  generalize hN : af_M (im_setI (im_setI (im_setI M 57 (3 * a) (nI b)) 57 (3 * a + 1) (nI c)) 57 (3 * a + 2) (nI g)) 58 (8192 * a) 0 C = N at k1 ⊢
  have k2 : f_M_font (nI a) (nI b) (nI c) (nI g) N = some (im_setI (af_M (im_setI (im_setI (im_setI (im_setI N 89 0 0) 93 (3 * a) (nI b)) 93 (3 * a + 1) (nI c)) 93 (3 * a + 2) (nI g)) 94 (8192 * a) 0 C) 69 0 0) := by
    have e : f_MDotRows_font (nI a) (nI b) (nI c) (nI g) N = some (af_M (im_setI (im_setI (im_setI (im_setI N 89 0 0) 93 (3 * a) (nI b)) 93 (3 * a + 1) (nI c)) 93 (3 * a + 2) (nI g)) 94 (8192 * a) 0 C) := by
      unfold f_MDotRows_font
      rw [isn0 h1 (Int32.not_lt.mp h2), isn0 h3 (Int32.not_lt.mp h4), isn0 h5 (Int32.not_lt.mp h6), isn0 h7 h8]
      simp only [bd1, jn0, Option.bind, if_true, if_false, not_true, gd_pos g0, gd_pos g1, gd_pos g2, c0, c1, c2, e_fontM hC ha]
      rw [if_pos (by show (0 : Int32) ≤ 0; decide)]
    unfold f_M_font f_MDotRows_thrown
    rw [e]
    simp only [bd1, Option.bind]
    rw [af_i, if_neg (by omega)]
    rfl
  refine ⟨_, k2, rfl, ?_⟩
  have hf : fr (2 ^ 57 ||| 2 ^ 58 ||| 2 ^ 93 ||| 2 ^ 94) [(69, 0), (89, 0)] M (im_setI (af_M (im_setI (im_setI (im_setI (im_setI N 89 0 0) 93 (3 * a) (nI b)) 93 (3 * a + 1) (nI c)) 93 (3 * a + 2) (nI g)) 94 (8192 * a) 0 C) 69 0 0) := fr_tr (fr_mono (by decide) (by decide) (f_M_font_fr k2)) (fr_mono (by decide) (by decide) (f_H_font_fr k1))
  have v57 : ∀ j, im_i N 57 j = if j = 3 * a + 2 then nI g else if j = 3 * a + 1 then nI c else if j = 3 * a then nI b else im_i M 57 j := by
    intro j
    rw [← hN, af_i, if_neg (by omega), set3]
  have v58 : ∀ j, im_i N 58 j = if 8192 * a ≤ j ∧ j < 8192 * a + C then 0 else im_i M 58 j := by
    intro j
    rw [← hN, af_i]
    by_cases h : 8192 * a ≤ j ∧ j < 8192 * a + C
    · rw [if_pos ⟨rfl, h⟩, if_pos h]
    · rw [if_neg (by omega), if_neg h]
      rfl
  have v93 : ∀ j, im_i N 93 j = im_i M 93 j := by intro j; rw [← hN, af_i, if_neg (by omega)]; rfl
  have v94 : ∀ j, im_i N 94 j = im_i M 94 j := by intro j; rw [← hN, af_i, if_neg (by omega)]; rfl
  have u57 : ∀ j, im_i (im_setI (af_M (im_setI (im_setI (im_setI (im_setI N 89 0 0) 93 (3 * a) (nI b)) 93 (3 * a + 1) (nI c)) 93 (3 * a + 2) (nI g)) 94 (8192 * a) 0 C) 69 0 0) 57 j = im_i N 57 j := by
    intro j
    rw [mi_I, if_neg (by decide), af_i, if_neg (by omega)]
    rfl
  have u58 : ∀ j, im_i (im_setI (af_M (im_setI (im_setI (im_setI (im_setI N 89 0 0) 93 (3 * a) (nI b)) 93 (3 * a + 1) (nI c)) 93 (3 * a + 2) (nI g)) 94 (8192 * a) 0 C) 69 0 0) 58 j = im_i N 58 j := by
    intro j
    rw [mi_I, if_neg (by decide), af_i, if_neg (by omega)]
    rfl
  have u93 : ∀ j, im_i (im_setI (af_M (im_setI (im_setI (im_setI (im_setI N 89 0 0) 93 (3 * a) (nI b)) 93 (3 * a + 1) (nI c)) 93 (3 * a + 2) (nI g)) 94 (8192 * a) 0 C) 69 0 0) 93 j = if j = 3 * a + 2 then nI g else if j = 3 * a + 1 then nI c else if j = 3 * a then nI b else im_i N 93 j := by
    intro j
    rw [mi_I, if_neg (by decide), af_i, if_neg (by omega), set3]
    rfl
  have u94 : ∀ j, im_i (im_setI (af_M (im_setI (im_setI (im_setI (im_setI N 89 0 0) 93 (3 * a) (nI b)) 93 (3 * a + 1) (nI c)) 93 (3 * a + 2) (nI g)) 94 (8192 * a) 0 C) 69 0 0) 94 j = if 8192 * a ≤ j ∧ j < 8192 * a + C then 0 else im_i N 94 j := by
    intro j
    rw [mi_I, if_neg (by decide), af_i]
    by_cases h : 8192 * a ≤ j ∧ j < 8192 * a + C
    · rw [if_pos ⟨rfl, h⟩, if_pos h]
    · rw [if_neg (by omega), if_neg h]
      rfl
  refine RL_F hf ⟨?_, ?_, ?_⟩ q
  · intro k hk
    rw [u57, u93, v57, v93, f1 k hk]
  · intro k hk
    rw [u58, u94, v58, v94, f2 k hk]
  · intro d hd
    rw [u57, u57, u57, v57, v57, v57]
    by_cases hda : d = a
    · subst hda
      refine ⟨b, c, g, ?_, ?_, ?_, hb1, hb, hc1, hc, hg⟩
      · rw [if_neg (by omega), if_neg (by omega), if_pos rfl]
      · rw [if_neg (by omega), if_pos rfl]
      · rw [if_pos rfl]
    · obtain ⟨x, y, z, t1, t2, t3, t4⟩ := f3 d hd
      refine ⟨x, y, z, ?_, ?_, ?_, t4⟩
      · rw [if_neg (by omega), if_neg (by omega), if_neg (by omega), t1]
      · rw [if_neg (by omega), if_neg (by omega), if_neg (by omega), t2]
      · rw [if_neg (by omega), if_neg (by omega), if_neg (by omega), t3]
theorem n_font {w : Bool} {M : im_M} {p0 p1 p2 p3 : Int32} (q : RL w M) (h : ¬ (¬ p0 < 0 ∧ ¬ 3 < p0 ∧ ¬ p1 < 1 ∧ ¬ 32 < p1 ∧ ¬ p2 < 1 ∧ ¬ 32 < p2 ∧ ¬ p3 < 0 ∧ p3 ≤ 32)) : ed (f_M_font p0 p1 p2 p3 (im_noX M)) (fun r => im_i r 69 0 = 1 ∧ RL w r) := by
  refine ⟨im_setI (im_setI (im_noX M) 89 0 1) 69 0 1, ?_, rfl, RL_0 (fr0_69 (fr0_89 fr0_X)) q⟩
  have e : f_MDotRows_font p0 p1 p2 p3 (im_noX M) = some (im_setI (im_noX M) 89 0 1) := by
    unfold f_MDotRows_font
    by_cases k0 : ¬ p0 < 0 ∧ p0 ≤ 3
    · by_cases k1 : ¬ p1 < 1 ∧ p1 ≤ 32
      · by_cases k2 : ¬ p2 < 1 ∧ p2 ≤ 32
        · have k3 : ¬ (¬ p3 < 0 ∧ p3 ≤ 32) := fun z => h ⟨k0.1, Int32.not_lt.mpr k0.2, k1.1, Int32.not_lt.mpr k1.2, k2.1, Int32.not_lt.mpr k2.2, z.1, z.2⟩
          rw [isn0 k0.1 k0.2, isn0 k1.1 k1.2, isn0 k2.1 k2.2, isn1 k3]
          simp [bd1, jn0, mi_I]
        · rw [isn0 k0.1 k0.2, isn0 k1.1 k1.2, isn1 k2]
          simp [bd1, jn0, mi_I]
      · rw [isn0 k0.1 k0.2, isn1 k1]
        simp [bd1, jn0, mi_I]
    · rw [isn1 k0]
      simp [bd1, jn0, mi_I]
  unfold f_M_font f_MDotRows_thrown
  rw [e]
  rfl
theorem lZ_shr {a : Int} {j : Nat} (hj : j < 64) (h1 : 0 ≤ a ∧ a < 9223372036854775808) : lZ a >>> (lZ (j : Int) &&& 63) = lZ (a / (2 ^ j : Nat)) := by
  rw [lA63 hj, ← Int64.toInt_inj]
  have e : (lZ a >>> lZ (j : Int)).toInt = a / (2 ^ j : Nat) := by
    rw [← Int64.toInt_toBitVec]
    show ((lZ a).toBitVec.sshiftRight' ((lZ (j : Int)).toBitVec.smod 64)).toInt = _
    unfold BitVec.sshiftRight'
    rw [BitVec.toInt_sshiftRight, sm64 hj, Int64.toInt_toBitVec, lZ_toInt (by omega) h1.2, Int.shiftRight_eq_div_pow]
  have h2 : 0 < (2 ^ j : Nat) := Nat.two_pow_pos j
  have h3 : 0 ≤ a / ((2 ^ j : Nat) : Int) := Int.ediv_nonneg h1.1 (by omega)
  have h4 : a / ((2 ^ j : Nat) : Int) ≤ a := Int.ediv_le_self _ h1.1
  rw [e, lZ_toInt (by omega) (by omega)]
theorem key_part {K j k : Nat} (hK : K < 2147483648) (hj : j < 64) (hk : k < 31) {c : Int32} {d : Int32} (hc : c = iZ ((2 ^ k - 1 : Nat) : Int)) (hd : d = nI j) : (Int64.toInt32 (lZ (K : Int) >>> (Int32.toInt64 d &&& 63) : Int64)) &&& c = nI (K / 2 ^ j % 2 ^ k) := by
  subst hc hd
  rw [iZ_nI, iZ_l (by omega), lZ_shr hj (by omega)]
  have h3 : (K : Int) / ((2 ^ j : Nat) : Int) = ((K / 2 ^ j : Nat) : Int) := (Int.natCast_ediv K (2 ^ j)).symm
  have h4 : K / 2 ^ j ≤ K := Nat.div_le_self _ _
  rw [h3]
  generalize K / 2 ^ j = t at h4
  rw [lZ_i (by omega), iZ_and k hk, iZ_nI]
  congr 1
theorem key_top {K j : Nat} (hK : K < 2147483648) (hj : j < 64) {d : Int32} (hd : d = nI j) : Int64.toInt32 (lZ (K : Int) >>> (Int32.toInt64 d &&& 63) : Int64) = nI (K / 2 ^ j) := by
  subst hd
  rw [iZ_nI, iZ_l (by omega), lZ_shr hj (by omega)]
  have h3 : (K : Int) / ((2 ^ j : Nat) : Int) = ((K / 2 ^ j : Nat) : Int) := (Int.natCast_ediv K (2 ^ j)).symm
  have h4 : K / 2 ^ j ≤ K := Nat.div_le_self _ _
  rw [h3]
  generalize K / 2 ^ j = t at h4
  rw [lZ_i (by omega), iZ_nI]
theorem e_part {M : im_M} {k x y m v q e : Nat} (hk : k < 300) (hx : x < 512) (hy : y < 512) (hm : m < 32) (hv : v < 64) (hq : q < 4) (e1 : im_l M 62 k = pkey x y m v q) (e2 : im_i M 63 k = nI e) : f_HFinder_part (nI k) 0 M = some (nI x) ∧ f_HFinder_part (nI k) 1 M = some (nI y) ∧ f_HFinder_part (nI k) 2 M = some (nI m) ∧ f_HFinder_part (nI k) 3 M = some (nI v) ∧ f_HFinder_part (nI k) 4 M = some (nI q) ∧ f_HFinder_part (nI k) 5 M = some (nI e) := by
  have gi : inb (nI k) 300 := by rw [inb_nI (by omega)]; omega
  have ec : (nI k).toNatClampNeg = k := nI_clamp (by omega)
  have hK : (((y * 512 + x) * 32 + m) * 64 + v) * 4 + q < 2147483648 := by omega
  have d1 : ∀ a b : Nat, a = b → nI a = nI b := fun a b h => by rw [h]
  refine ⟨?_, ?_, ?_, ?_, ?_, ?_⟩
  · unfold f_HFinder_part
    rw [gd_pos gi, ec, e1, if_pos rfl]
    unfold pkey
    rw [key_part (c := 511) (d := 13) (k := 9) (j := 13) hK (by decide) (by decide) rfl rfl]
    exact congrArg some (d1 _ _ (by show _ / 8192 % 512 = x; omega))
  · unfold f_HFinder_part
    rw [gd_pos gi, ec, e1, if_neg (by decide), if_pos rfl]
    unfold pkey
    rw [key_top (d := 22) (j := 22) hK (by decide) rfl]
    exact congrArg some (d1 _ _ (by show _ / 4194304 = y; omega))
  · unfold f_HFinder_part
    rw [gd_pos gi, ec, e1, if_neg (by decide), if_neg (by decide), if_pos rfl]
    unfold pkey
    rw [key_part (c := 31) (d := 8) (k := 5) (j := 8) hK (by decide) (by decide) rfl rfl]
    exact congrArg some (d1 _ _ (by show _ / 256 % 32 = m; omega))
  · unfold f_HFinder_part
    rw [gd_pos gi, ec, e1, if_neg (by decide), if_neg (by decide), if_neg (by decide), if_pos rfl]
    unfold pkey
    rw [key_part (c := 63) (d := 2) (k := 6) (j := 2) hK (by decide) (by decide) rfl rfl]
    exact congrArg some (d1 _ _ (by show _ / 4 % 64 = v; omega))
  · unfold f_HFinder_part
    rw [gd_pos gi, ec, e1, if_neg (by decide), if_neg (by decide), if_neg (by decide), if_neg (by decide), if_pos rfl]
    unfold pkey
    have c3 : (3 : Int32) = iZ ((2 ^ 2 - 1 : Nat) : Int) := rfl
    rw [lZ_i (by omega), c3, iZ_and 2 (by decide), iZ_nI]
    have : ((((((y * 512 + x) * 32 + m) * 64 + v) * 4 + q : Nat) : Int) % ((2 ^ 2 : Nat) : Int)) = (q : Int) := by
      show _ % 4 = _
      omega
    rw [this]
  · unfold f_HFinder_part
    rw [gd_pos gi, ec, if_neg (by decide), if_neg (by decide), if_neg (by decide), if_neg (by decide), if_neg (by decide), e2, gd_pos gi]
theorem c_found {w : Bool} {M : im_M} {p0 p1 : Int32} (q : RL w M) (h1 : ¬ p1 < 0) (h2 : p1 ≤ 5) : ed (f_H_found p0 p1 M) (fun x => ∀ M2, fr0 M M2 → im_l M2 138 0 = x.toInt64 → ed (f_M_found p0 p1 M2) (ans w 0)) := by
  obtain ⟨W, H, D, rd, n, hn, e1, e2, e3⟩ := q.2.2.2.2.2.2.1
  have hm : ∀ M2, fr0 M M2 → RL w (im_setI (im_setI M2 130 0 0) 69 0 0) := fun M2 f => RL_0 (fr0_69 (fr0_130 f)) q
  by_cases h3 : p0 < 0
  · refine ⟨-1, by simp [f_H_found, h1, h2, h3, jn0], fun M2 f e => ⟨(-1, im_setI (im_setI M2 130 0 0) 69 0 0), ?_, rfl, fun _ => e, hm M2 f⟩⟩
    simp [f_M_found, f_MPlaceRows_place, f_MPlaceRows_thrown, h1, h2, h3, bd2, bd1, jn0, mi_I]
  · by_cases h4 : p0 < im_i M 59 0
    · obtain ⟨a, rfl, ha⟩ := iz3' h3 (by rw [e1] at h4; exact h4) (by omega)
      obtain ⟨b, rfl, hb⟩ := iz3 h1 (n := 5) h2 (by omega)
      obtain ⟨x, y, m, v, qq, ee, m1, m2, v1, v2, q1, ee1, bx, by_, k1, k2, k3, k4, k5, k6, k7, k8⟩ := e3 a ha
      have hW := rd.1
      have hx : x < 512 := by
        have : 1 ≤ m * (17 + 4 * v) := Nat.mul_pos (by omega) (by omega)
        omega
      have hy : y < 512 := by
        have : 1 ≤ m * (17 + 4 * v) := Nat.mul_pos (by omega) (by omega)
        omega
      obtain ⟨P0, P1, P2, P3, P4, P5⟩ := e_part (M := M) (e := ee) (show a < 300 by omega) hx hy (by omega) (by omega) q1 k1 k2
      have ej : (6 : Int32) * nI a + nI b = nI (6 * a + b) := by rw [nI_n, nI_mul, nI_add]
      have gj : inb ((6 : Int32) * nI a + nI b) 1800 := by rw [ej, inb_nI (by omega)]; omega
      have ec : ((6 : Int32) * nI a + nI b).toNatClampNeg = 6 * a + b := by rw [ej, nI_clamp (by omega)]
      have hp : f_HFinder_part (nI a) (nI b) M = some (im_i M 135 (6 * a + b)) := by
        rcases (show b = 0 ∨ b = 1 ∨ b = 2 ∨ b = 3 ∨ b = 4 ∨ b = 5 by omega) with rfl | rfl | rfl | rfl | rfl | rfl
        · rw [show 6 * a + 0 = 6 * a from rfl, k3]; exact P0
        · rw [k4]; exact P1
        · rw [k5]; exact P2
        · rw [k6]; exact P3
        · rw [k7]; exact P4
        · rw [k8]; exact P5
      refine ⟨im_i M 135 (6 * a + b), by simp [f_H_found, h1, h2, h3, h4, jn0, bd1, hp], fun M2 f e => ⟨(im_i M2 135 (6 * a + b), im_setI (im_setI M2 130 0 0) 69 0 0), ?_, rfl, fun _ => ?_, hm M2 f⟩⟩
      · have h5 : nI a < im_i M2 130 10 := by rw [f.1 130 10 rfl (by decide), e2]; exact nI_lt ha (by omega)
        simp [f_M_found, f_MPlaceRows_place, f_MPlaceRows_thrown, h1, h2, h3, h5, bd2, bd1, jn0, mi_I, gd_pos gj, ec]
      · show im_l M2 138 0 = (im_i M2 135 (6 * a + b)).toInt64
        rw [e, fr_c f 135 rfl (by decide)]
    · refine ⟨-1, by simp [f_H_found, h1, h2, h3, h4, jn0], fun M2 f e => ⟨(-1, im_setI (im_setI M2 130 0 0) 69 0 0), ?_, rfl, fun _ => e, hm M2 f⟩⟩
      have h5 : ¬ p0 < im_i M2 130 10 := by rw [f.1 130 10 rfl (by decide), e2, ← e1]; exact h4
      simp [f_M_found, f_MPlaceRows_place, f_MPlaceRows_thrown, h1, h2, h3, h5, bd2, bd1, jn0, mi_I]
theorem n_found {w : Bool} {M : im_M} {p0 p1 : Int32} (q : RL w M) (h : ¬ (¬ p1 < 0 ∧ p1 ≤ 5)) : ed (f_M_found p0 p1 (im_noX M)) (ans w 1) := by
  refine ⟨(0, im_setI (im_setI (im_noX M) 130 0 1) 69 0 1), ?_, rfl, fun k => absurd k (by decide), RL_0 (fr0_69 (fr0_130 fr0_X)) q⟩
  by_cases h1 : p1 < 0
  · simp [f_M_found, f_MPlaceRows_place, f_MPlaceRows_thrown, h1, bd2, bd1, jn0, mi_I]
  · have h2 : ¬ p1 ≤ 5 := fun z => h ⟨h1, z⟩
    simp [f_M_found, f_MPlaceRows_place, f_MPlaceRows_thrown, h1, h2, bd2, bd1, jn0, mi_I]
