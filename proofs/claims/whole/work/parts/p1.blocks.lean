/-! BLOCKS AND THEIR CHECK BYTES, BY THE CLASS -/
theorem nar_255 {x : Int32} : (vp_nar .byte x) &&& 255 = x &&& 255 := by
  apply ib_ext
  intro j hj
  rw [nar_b, ib_and, ib_and]
  have e : ib 255 j = decide (j < 8) := b255i hj
  rw [e]
  by_cases h : j < 8
  · simp only [h, decide_true, Bool.and_true]
    unfold ib
    show (BitVec.signExtend 32 (BitVec.signExtend 8 x.toBitVec)).getLsbD j = x.toBitVec.getLsbD j
    simp only [BitVec.getLsbD_signExtend, hj, h, decide_true, if_true, Bool.true_and]
  · simp [h]
theorem n255 : ∀ x : Fin 256, nI x.val &&& 255 = nI x.val := by decide +kernel
def szB (h n b : Nat) : Nat := h / n + (if b < n - h % n then 0 else 1)
def plcB (h n b i : Nat) : Nat := if i < szB h n b then (if h / n ≤ i then h / n * n + b - (n - h % n) else i * n + b) else h + (i - szB h n b) * n + b
def srB (h n : Nat) : Nat → Nat
  | 0 => 0
  | b + 1 => srB h n b + szB h n b
theorem srB_f {h n : Nat} (hn : 0 < n) : ∀ b, srB h n b = b * (h / n) + (b - (n - h % n)) := by
  have r : h % n < n := Nat.mod_lt _ hn
  intro b
  induction b with
  | zero => show 0 = 0 * (h / n) + (0 - (n - h % n)); omega
  | succ b ih =>
    show srB h n b + szB h n b = _
    rw [ih, Nat.succ_mul]
    unfold szB
    by_cases c : b < n - h % n
    · rw [if_pos c]; omega
    · rw [if_neg c]; omega
theorem srB_h {h n b : Nat} (hn : 0 < n) (hb : b < n) : srB h n b + szB h n b ≤ h := by
  have r : h % n < n := Nat.mod_lt _ hn
  have e := srB_f (h := h) hn (b + 1)
  replace e : srB h n b + szB h n b = (b + 1) * (h / n) + (b + 1 - (n - h % n)) := e
  have m : (b + 1) * (h / n) ≤ n * (h / n) := Nat.mul_le_mul_right _ (by omega)
  have d := Nat.div_add_mod h n
  omega
theorem plcB_lt {h n c b i : Nat} (hn : 0 < n) (hb : b < n) (hi : i < szB h n b + c) : plcB h n b i < h + n * c := by
  have r : h % n < n := Nat.mod_lt _ hn
  have d := Nat.div_add_mod h n
  rw [Nat.mul_comm] at d
  unfold plcB
  by_cases z : i < szB h n b
  · rw [if_pos z]
    unfold szB at z
    by_cases y : h / n ≤ i
    · rw [if_pos y]
      by_cases w : b < n - h % n
      · rw [if_pos w] at z; omega
      · omega
    · rw [if_neg y]
      have : (i + 1) * n ≤ h / n * n := Nat.mul_le_mul_right _ (by omega)
      rw [Nat.succ_mul] at this
      omega
  · rw [if_neg z]
    have : (i - szB h n b + 1) * n ≤ c * n := Nat.mul_le_mul_right _ (by omega)
    rw [Nat.succ_mul, Nat.mul_comm c n] at this
    omega
/-- the product of all x - 2^i -/
def GN : Nat → Nat → Nat
  | 0, j => if j = 0 then 1 else 0
  | k + 1, j => if 1 ≤ j ∧ j ≤ k + 1 then GN k j ^^^ gm (GN k (j - 1)) (pwN k) else GN k j
theorem GN_lt : ∀ k j, GN k j < 256 := by
  intro k
  induction k with
  | zero => intro j; show (if j = 0 then 1 else 0) < 256; split <;> omega
  | succ k ih =>
    intro j
    show (if 1 ≤ j ∧ j ≤ k + 1 then GN k j ^^^ gm (GN k (j - 1)) (pwN k) else GN k j) < 256
    split
    · exact xor_lt (ih j) gm_lt
    · exact ih j
theorem GN_0 : ∀ k j, k < j → GN k j = 0 := by
  intro k
  induction k with
  | zero => intro j hj; exact if_neg (by omega)
  | succ k ih =>
    intro j hj
    show (if 1 ≤ j ∧ j ≤ k + 1 then _ else GN k j) = 0
    rw [if_neg (by omega)]
    exact ih j (by omega)
theorem GN_1 : ∀ k, GN k 0 = 1 := by
  intro k
  induction k with
  | zero => rfl
  | succ k ih =>
    show (if 1 ≤ 0 ∧ 0 ≤ k + 1 then _ else GN k 0) = 1
    rw [if_neg (by omega)]
    exact ih
/-- what is left of a division after i bytes -/
def RM (c : Nat) (d : Nat → Nat) : Nat → Nat → Nat
  | 0, _ => 0
  | i + 1, j => (if j + 1 < c then RM c d i (j + 1) else 0) ^^^ gm (d i ^^^ RM c d i 0) (GN c (j + 1))
theorem RM_lt {c : Nat} {d : Nat → Nat} : ∀ i j, RM c d i j < 256 := by
  intro i
  induction i with
  | zero => intro j; show 0 < 256; omega
  | succ i ih =>
    intro j
    show (if j + 1 < c then RM c d i (j + 1) else 0) ^^^ gm (d i ^^^ RM c d i 0) (GN c (j + 1)) < 256
    refine xor_lt ?_ gm_lt
    split
    · exact ih _
    · omega
def BK (M : im_M) (h n c w : Nat) : Prop := im_i M 43 10 = nI h ∧ im_i M 43 11 = nI n ∧ im_i M 43 12 = nI c ∧ im_i M 43 13 = nI w
theorem BK_fr {A : Nat} {F : List (Nat × Nat)} {M M' : im_M} {h n c w : Nat} (z : fr A F M M') (cl : clr A F [] [(43, 10), (43, 11), (43, 12), (43, 13)] [] = true) (q : BK M h n c w) : BK M' h n c w := by
  unfold BK at q ⊢
  rw [clr_f cl z (a := 43) (k := 10) (by decide), clr_f cl z (a := 43) (k := 11) (by decide), clr_f cl z (a := 43) (k := 12) (by decide), clr_f cl z (a := 43) (k := 13) (by decide)]
  exact q
theorem s_beginB {M : im_M} {v l : Nat} (hv : 1 ≤ v ∧ v ≤ 40) (hl : l < 4) : ed (f_HBlocks_begin (nI v) (nI l) M) (fun R => BK R (HO v l) (bcT (jx v l)) (ckT (jx v l)) (CW v) ∧ fr 0 [(43, 10), (43, 11), (43, 12), (43, 13)] M R) := by
  have j := jx_lt hv hl
  obtain ⟨a1, a2, _⟩ := tb_bc ⟨jx v l, j⟩
  replace a1 : xa_11 (nI (jx v l)) = nI (bcT (jx v l)) := a1
  replace a2 : xa_12 (nI (jx v l)) = nI (ckT (jx v l)) := a2
  have c : ∀ M : im_M, f_HBlocks_codewordsOf (nI v) M = some (nI (CW v)) := fun M => cw_c ⟨v, by omega⟩ hv.1
  unfold f_HBlocks_begin
  rw [ho_i hv, gd_pos (by rw [inb_nI (by omega)]; omega), gd_pos (by rw [inb_nI (by omega)]; omega), a1, a2, s_holdsC hv hl, bd1_s, c, bd1_s]
  refine ed_mk ⟨⟨?_, ?_, ?_, hit⟩, fr_F (by decide) (fr_F (by decide) (fr_F (by decide) (fr_F (by decide) fr_refl)))⟩
  · rw [sk1 (by omega)]; exact hit
  · rw [sk1 (by omega), sk1 (by omega), sk1 (by omega)]; exact hit
  · rw [sk1 (by omega), sk1 (by omega)]; exact hit
theorem s_genC {M : im_M} {h n c w : Nat} (q : BK M h n c w) (qp : PWL M) (hc : c ≤ 30) : ed (f_HBlocks_makeGenerator M) (fun R => (∀ j, j < 31 → im_i R 47 j = nI (GN c j)) ∧ fr (2 ^ 47) [] M R) := by
  unfold f_HBlocks_makeGenerator f_Arrays_fill4
  apply bd1_mk
  apply bd1_mk
  refine ed_mono (lp_inv (fun m (s : Int32 × im_M) => ∃ i : Nat, i + m = 31 ∧ s.1 = nI i ∧ (∀ j, j < i → im_i s.2 47 j = 0) ∧ fr (2 ^ 47) [] M s.2) (Q := fun R => (∀ j, j < 31 → im_i R 47 j = 0) ∧ fr (2 ^ 47) [] M R) ?_ (k := 31) ⟨0, by omega, rfl, fun j hj => absurd hj (Nat.not_lt_zero _), fr_refl⟩) ?_
  · rintro m ⟨x4, M5⟩ ⟨i, hi, e1, e2, hf⟩
    replace e1 : x4 = nI i := e1
    replace e2 : ∀ j, j < i → im_i M5 47 j = 0 := e2
    replace hf : fr (2 ^ 47) [] M M5 := hf
    subst e1
    show ed (f_Arrays_fill4_L5 0 31 (nI i) M5) _
    unfold f_Arrays_fill4_L5
    have k0 : ((31 : Int32) ≤ nI i) = (31 ≤ i) := nIl (x := 31) (by omega) (by omega)
    simp only [k0]
    by_cases z : 31 ≤ i
    · rw [if_pos z]
      exact lpo_r ⟨fun j hj => e2 j (by omega), hf⟩
    · rw [if_neg z, gd_pos (by rw [inb_nI (by omega)]; omega), nI_clamp (by omega)]
      refine lpo_l (m - 1) (by omega) ⟨i + 1, by omega, nI_add i 1, fun j hj => ?_, fr_I (by decide) hf⟩
      show im_i (im_setI M5 47 i 0) 47 j = 0
      by_cases e : j = i
      · subst e; exact hit
      · rw [sk1 (fun z => e z.2)]; exact e2 j (by omega)
  · rintro M1 ⟨z1, f1⟩
    refine ed_mk ?_
    rw [gd_pos (by decide)]
    have g0 : ∀ j, j < 31 → im_i (im_setI M1 47 (Int32.toNatClampNeg 0) 1) 47 j = nI (GN 0 j) := fun j hj => by
      show im_i (im_setI M1 47 0 1) 47 j = nI (if j = 0 then 1 else 0)
      by_cases e : j = 0
      · subst e; rw [hit]; rfl
      · rw [sk1 (fun z => e z.2), z1 j hj, if_neg e]; rfl
    apply bd1_mk
    refine ed_mono (lp_inv (fun m (s : Int32 × im_M) => ∃ i : Nat, i + m = c ∧ s.1 = nI i ∧ (∀ j, j < 31 → im_i s.2 47 j = nI (GN i j)) ∧ fr (2 ^ 47) [] M s.2) (Q := fun R => (∀ j, j < 31 → im_i R 47 j = nI (GN c j)) ∧ fr (2 ^ 47) [] M R) ?_ (k := c) ⟨0, by omega, rfl, g0, fr_I (by decide) f1⟩) (fun R h => ed_mk h)
    rintro m ⟨x3, M4⟩ ⟨i, hi, e1, g4, f4⟩
    replace e1 : x3 = nI i := e1
    replace g4 : ∀ j, j < 31 → im_i M4 47 j = nI (GN i j) := g4
    replace f4 : fr (2 ^ 47) [] M M4 := f4
    subst e1
    show ed (f_HBlocks_makeGenerator_L17 (nI i) M4) _
    unfold f_HBlocks_makeGenerator_L17
    rw [(BK_fr f4 (by decide +kernel) q).2.2.1, if_nIl (by omega) (by omega)]
    by_cases z : c ≤ i
    · rw [if_pos z]
      obtain rfl : i = c := by omega
      exact lpo_r ⟨g4, f4⟩
    · rw [if_neg z, show nI i + 1 = nI (i + 1) from nI_add i 1]
      apply bd1_mk
      refine ed_mono (lp_inv (fun j (s : Int32 × im_M) => j ≤ i + 1 ∧ s.1 = nI j ∧ (∀ u, u < 31 → im_i s.2 47 u = nI (if j < u then GN (i + 1) u else GN i u)) ∧ fr (2 ^ 47) [] M s.2) (Q := fun R => (∀ j, j < 31 → im_i R 47 j = nI (GN (i + 1) j)) ∧ fr (2 ^ 47) [] M R) ?_ (k := i + 1) ⟨Nat.le_refl _, rfl, fun u hu => ?_, f4⟩) ?_
      · rintro j ⟨x7, M8⟩ ⟨hj, e1, g8, f8⟩
        replace e1 : x7 = nI j := e1
        replace g8 : ∀ u, u < 31 → im_i M8 47 u = nI (if j < u then GN (i + 1) u else GN i u) := g8
        replace f8 : fr (2 ^ 47) [] M M8 := f8
        subst e1
        show ed (f_HBlocks_makeGenerator_L29 (nI i) (nI j) M8) _
        unfold f_HBlocks_makeGenerator_L29
        have k0 : (nI j ≤ 0) = (j ≤ 0) := nIl (c := 0) (by omega) (by omega)
        simp only [k0]
        by_cases y : j ≤ 0
        · rw [if_pos y]
          obtain rfl : j = 0 := by omega
          refine lpo_r ⟨fun u hu => ?_, f8⟩
          rw [g8 u hu]
          by_cases e : 0 < u
          · rw [if_pos e]
          · rw [if_neg e, show u = 0 by omega, GN_1, GN_1]
        · obtain ⟨r, rfl⟩ : ∃ r, j = r + 1 := ⟨j - 1, by omega⟩
          have p8 := PWL_fr f8 (by decide +kernel) qp
          have em : nI (r + 1) - 1 = nI r := by rw [nI_m1 (by omega), Nat.add_sub_cancel]
          have ep : nI (r + 1) + (-1) = nI r := by
            rw [← show nI r + 1 = nI (r + 1) from nI_add r 1, Int32.add_assoc]
            show nI r + 0 = nI r
            exact Int32.add_zero _
          rw [if_neg y, em, ep, gd_pos (by rw [inb_nI (by omega)]; omega), gd_pos (by rw [inb_nI (by omega)]; omega), gd_pos (by rw [inb_nI (by omega)]; omega), nI_clamp (by omega), nI_clamp (by omega), nI_clamp (by omega), g8 r (by omega), if_neg (by omega), pw_M p8 (by omega), s_timesC p8 (GN_lt _ _) (pw_lt _), bd1_s, gd_pos (by rw [inb_nI (by omega)]; omega), g8 (r + 1) (by omega), if_neg (by omega), nI_xor]
          refine lpo_l r (by omega) ⟨by omega, rfl, fun u hu => ?_, fr_I (by decide) f8⟩
          show im_i (im_setI M8 47 (r + 1) _) 47 u = _
          by_cases e : u = r + 1
          · subst e
            rw [hit, if_pos (by omega)]
            show _ = nI (if 1 ≤ r + 1 ∧ r + 1 ≤ i + 1 then GN i (r + 1) ^^^ gm (GN i (r + 1 - 1)) (pwN i) else GN i (r + 1))
            rw [if_pos (by omega), Nat.add_sub_cancel]
          · rw [sk1 (fun z => e z.2), g8 u hu]
            by_cases w : r + 1 < u
            · rw [if_pos w, if_pos (by omega)]
            · rw [if_neg w, if_neg (by omega)]
      · show im_i M4 47 u = _
        rw [g4 u hu]
        by_cases w : i + 1 < u
        · rw [if_pos w]
          show _ = nI (if 1 ≤ u ∧ u ≤ i + 1 then _ else GN i u)
          rw [if_neg (by omega)]
        · rw [if_neg w]
      · rintro R ⟨gR, fR⟩
        exact lpo_l (m - 1) (by omega) ⟨i + 1, by omega, rfl, gR, fR⟩
theorem s_sizeOf {M : im_M} {h n c w b : Nat} (q : BK M h n c w) (hh : h ≤ 3000) (hn : 1 ≤ n ∧ n ≤ 81) (hb : b ≤ 81) : f_HBlocks_sizeOf (nI b) M = some (nI (szB h n b)) := by
  obtain ⟨q1, q2, q3, q4⟩ := q
  have r : h % n < n := Nat.mod_lt _ (by omega)
  have z : ¬ nI n = 0 := nI_z (by omega) (by omega)
  unfold f_HBlocks_sizeOf szB
  rw [q1, q2, gd_pos z, gd_pos z, nI_rem (by omega) (by omega) (by omega), nI_div (by omega) (by omega) (by omega), nI_sb (by omega), if_nIlt (by omega) (by omega)]
  by_cases y : b < n - h % n
  · rw [if_pos y, if_pos y]
    exact congrArg some (nI_add (h / n) 0)
  · rw [if_neg y, if_neg y]
    exact congrArg some (nI_add (h / n) 1)
theorem szB_b {h n b : Nat} : szB h n b ≤ h / n + 1 := by
  unfold szB
  split <;> omega
theorem s_placeOf {M : im_M} {h n c w b i : Nat} (q : BK M h n c w) (hh : h ≤ 3000) (hn : 1 ≤ n ∧ n ≤ 81) (hb : b < n) (hi : i ≤ 255) : f_HBlocks_placeOf (nI b) (nI i) M = some (nI (plcB h n b i)) := by
  have qq := q
  obtain ⟨q1, q2, q3, q4⟩ := q
  have r : h % n < n := Nat.mod_lt _ (by omega)
  have z : ¬ nI n = 0 := nI_z (by omega) (by omega)
  have d : h / n ≤ h := Nat.div_le_self _ _
  have sb := szB_b (h := h) (n := n) (b := b)
  unfold f_HBlocks_placeOf plcB
  rw [s_sizeOf qq hh hn (by omega), bd1_s, q1, q2, gd_pos z, gd_pos z, nI_rem (by omega) (by omega) (by omega), nI_div (by omega) (by omega) (by omega), if_nIlt (by omega) (by omega), if_nIl (by omega) (by omega), nI_sb (by omega)]
  by_cases y : i < szB h n b
  · rw [if_pos y, if_pos y]
    by_cases x : h / n ≤ i
    · have wb : n - h % n ≤ b := by
        unfold szB at y
        by_cases u : b < n - h % n
        · rw [if_pos u] at y; omega
        · omega
      rw [if_pos x, if_pos x, nI_mul, nI_add, nI_sb (by omega)]
    · rw [if_neg x, if_neg x, nI_mul, nI_add]
  · rw [if_neg y, if_neg y, nI_sb (by omega), nI_mul, nI_add, nI_add]
theorem s_divideC {M : im_M} {h n c w z : Nat} {d : Nat → Nat} (q : BK M h n c w) (qp : PWL M) (hc : 1 ≤ c ∧ c ≤ 30) (hz : 1 ≤ z ∧ z + c ≤ 255) (hg : ∀ j, j < 31 → im_i M 47 j = nI (GN c j)) (hd : ∀ i, i < z → d i < 256 ∧ im_i M 48 i = nI (d i)) : ed (f_HBlocks_divide (nI z) M) (fun R => (∀ j, j < c → im_i R 48 (z + j) = nI (RM c d z j)) ∧ fr (2 ^ 48) [] M R) := by
  unfold f_HBlocks_divide f_Arrays_fill_4 f_Arrays_rangeCheck
  have c1 : nI z ≤ nI (z + c) := by rw [nIl (by omega) (by omega)]; omega
  have c2 : (0 : Int32) ≤ nI z := by rw [show (0 : Int32) = nI 0 from rfl, nIl (by omega) (by omega)]; omega
  have c3 : nI (z + c) ≤ 255 := by rw [show (255 : Int32) = nI 255 from rfl, nIl (by omega) (by omega)]; omega
  rw [q.2.2.1, nI_add, if_pos c1, if_pos c2, if_pos c3]
  apply bd1_mk
  show ed (bd1 (lp (uc2 (f_Arrays_fill_4_L10 (nI (z + c)) 0)) (nI z, M)) fun (M7 : im_M) => some M7) _
  apply bd1_mk
  refine ed_mono (lp_inv (fun m (s : Int32 × im_M) => ∃ k : Nat, k + m = c ∧ s.1 = nI (z + k) ∧ (∀ j, j < k → im_i s.2 48 (z + j) = 0) ∧ (∀ i, i < z → im_i s.2 48 i = nI (d i)) ∧ fr (2 ^ 48) [] M s.2) (Q := fun R => (∀ j, j < c → im_i R 48 (z + j) = 0) ∧ (∀ i, i < z → im_i R 48 i = nI (d i)) ∧ fr (2 ^ 48) [] M R) ?_ (k := c) ⟨0, by omega, rfl, fun j hj => absurd hj (Nat.not_lt_zero _), fun i hi => (hd i hi).2, fr_refl⟩) ?_
  · rintro m ⟨x5, M6⟩ ⟨k, hk, e1, e2, e3, hf⟩
    replace e1 : x5 = nI (z + k) := e1
    replace e2 : ∀ j, j < k → im_i M6 48 (z + j) = 0 := e2
    replace e3 : ∀ i, i < z → im_i M6 48 i = nI (d i) := e3
    replace hf : fr (2 ^ 48) [] M M6 := hf
    subst e1
    show ed (f_Arrays_fill_4_L10 (nI (z + c)) 0 (nI (z + k)) M6) _
    unfold f_Arrays_fill_4_L10
    rw [if_nIl (by omega) (by omega)]
    by_cases y : z + c ≤ z + k
    · rw [if_pos y]
      exact lpo_r ⟨fun j hj => e2 j (by omega), e3, hf⟩
    · rw [if_neg y, gd_pos (by rw [inb_nI (by omega)]; omega), nI_clamp (by omega)]
      refine lpo_l (m - 1) (by omega) ⟨k + 1, by omega, nI_add (z + k) 1, fun j hj => ?_, fun i hi => ?_, fr_I (by decide) hf⟩
      · show im_i (im_setI M6 48 (z + k) 0) 48 (z + j) = 0
        by_cases e : j = k
        · subst e; exact hit
        · rw [sk1 (by omega)]; exact e2 j (by omega)
      · show im_i (im_setI M6 48 (z + k) 0) 48 i = _
        rw [sk1 (by omega)]
        exact e3 i hi
  · rintro M1 ⟨z1, d1, f1⟩
    refine ed_mk ?_
    apply bd1_mk
    refine ed_mono (lp_inv (fun m (s : Int32 × im_M) => ∃ i : Nat, i + m = z ∧ s.1 = nI i ∧ (∀ j, j < c → im_i s.2 48 (z + j) = nI (RM c d i j)) ∧ (∀ i, i < z → im_i s.2 48 i = nI (d i)) ∧ fr (2 ^ 48) [] M s.2) (Q := fun R => (∀ j, j < c → im_i R 48 (z + j) = nI (RM c d z j)) ∧ fr (2 ^ 48) [] M R) ?_ (k := z) ⟨0, by omega, rfl, z1, d1, f1⟩) (fun R h => ed_mk h)
    rintro m ⟨x4, M5⟩ ⟨i, hi, e1, r5, d5, f5⟩
    replace e1 : x4 = nI i := e1
    replace r5 : ∀ j, j < c → im_i M5 48 (z + j) = nI (RM c d i j) := r5
    replace d5 : ∀ i, i < z → im_i M5 48 i = nI (d i) := d5
    replace f5 : fr (2 ^ 48) [] M M5 := f5
    subst e1
    show ed (f_HBlocks_divide_L17 (nI z) (nI i) M5) _
    unfold f_HBlocks_divide_L17
    rw [if_nIl (by omega) (by omega)]
    by_cases y : z ≤ i
    · rw [if_pos y]
      obtain rfl : i = z := by omega
      exact lpo_r ⟨r5, f5⟩
    · have r0 := r5 0 (by omega)
      rw [Nat.add_zero] at r0
      have tl : d i ^^^ RM c d i 0 < 256 := xor_lt (hd i (by omega)).1 (RM_lt _ _)
      rw [if_neg y, gd_pos (by rw [inb_nI (by omega)]; omega), gd_pos (by rw [inb_nI (by omega)]; omega), nI_clamp (by omega), nI_clamp (by omega), d5 i (by omega), r0, nI_xor]
      apply bd1_mk
      refine ed_mono (lp_inv (fun m (s : Int32 × im_M) => ∃ j : Nat, j + m = c ∧ s.1 = nI j ∧ (∀ u, u < c → im_i s.2 48 (z + u) = nI (if u < j then RM c d (i + 1) u else RM c d i u)) ∧ (∀ i, i < z → im_i s.2 48 i = nI (d i)) ∧ fr (2 ^ 48) [] M s.2) (Q := fun R => (∀ j, j < c → im_i R 48 (z + j) = nI (RM c d (i + 1) j)) ∧ (∀ i, i < z → im_i R 48 i = nI (d i)) ∧ fr (2 ^ 48) [] M R) ?_ (k := c) ⟨0, by omega, rfl, fun u hu => by rw [if_neg (Nat.not_lt_zero _)]; exact r5 u hu, d5, f5⟩) ?_
      · rintro m ⟨x10, M11⟩ ⟨j, hj, e1, r11, d11, f11⟩
        replace e1 : x10 = nI j := e1
        replace r11 : ∀ u, u < c → im_i M11 48 (z + u) = nI (if u < j then RM c d (i + 1) u else RM c d i u) := r11
        replace d11 : ∀ i, i < z → im_i M11 48 i = nI (d i) := d11
        replace f11 : fr (2 ^ 48) [] M M11 := f11
        subst e1
        show ed (f_HBlocks_divide_L39 (nI z) (nI i) (nI (d i ^^^ RM c d i 0)) (nI j) M11) _
        unfold f_HBlocks_divide_L39
        have e1 : nI j + 1 = nI (j + 1) := nI_add j 1
        have e2 : nI (z + j) + 1 = nI (z + j + 1) := nI_add _ 1
        have g11 : im_i M11 47 (j + 1) = nI (GN c (j + 1)) ∨ c ≤ j := by
          by_cases w : c ≤ j
          · exact Or.inr w
          · rw [fr_c f11 47 (by decide) (by simp)]
            exact Or.inl (hg _ (by omega))
        rw [(BK_fr f11 (by decide +kernel) q).2.2.1, if_nIl (by omega) (by omega), e1, nI_add, e2]
        by_cases w : c ≤ j
        · rw [if_pos w]
          refine lpo_r ⟨fun u hu => ?_, d11, f11⟩
          rw [r11 u hu, if_pos (by omega)]
        · rcases g11 with g11 | g11
          · have nx : (if nI c ≤ nI (j + 1) then some (0 : Int32) else gd (inb (nI (z + j + 1)) 255) <| some (im_i M11 48 (Int32.toNatClampNeg (nI (z + j + 1))))) = some (nI (if j + 1 < c then RM c d i (j + 1) else 0)) := by
              rw [if_nIl (by omega) (by omega)]
              by_cases x : c ≤ j + 1
              · rw [if_pos x, if_neg (by omega)]; rfl
              · rw [if_neg x, if_pos (by omega), gd_pos (by rw [inb_nI (by omega)]; omega), nI_clamp (by omega), show z + j + 1 = z + (j + 1) by omega, r11 (j + 1) (by omega), if_neg (by omega)]
            rw [if_neg w, nx, bd1_s, gd_pos (by rw [inb_nI (by omega)]; omega), nI_clamp (by omega), g11, s_timesC (PWL_fr f11 (by decide +kernel) qp) tl (GN_lt _ _), bd1_s, gd_pos (by rw [inb_nI (by omega)]; omega), nI_clamp (by omega), nI_xor]
            refine lpo_l (m - 1) (by omega) ⟨j + 1, by omega, rfl, fun u hu => ?_, fun k hk => ?_, fr_I (by decide) f11⟩
            · show im_i (im_setI M11 48 (z + j) _) 48 (z + u) = _
              by_cases e : u = j
              · subst e
                rw [hit, if_pos (show u < u + 1 by omega)]
                rfl
              · rw [sk1 (by omega), r11 u hu]
                by_cases x : u < j
                · rw [if_pos x, if_pos (by omega)]
                · rw [if_neg x, if_neg (by omega)]
            · show im_i (im_setI M11 48 (z + j) _) 48 k = _
              rw [sk1 (by omega)]
              exact d11 k hk
          · exact absurd g11 w
      · rintro R ⟨rR, dR, fR⟩
        exact lpo_l (m - 1) (by omega) ⟨i + 1, by omega, nI_add i 1, rR, dR, fR⟩
/-- byte i of block b, and all blocks written into an array -/
def wvB (h n c : Nat) (D : Nat → Nat) (b i : Nat) : Nat := if i < szB h n b then D (srB h n b + i) else RM c (fun i => D (srB h n b + i)) (szB h n b) (i - szB h n b)
def bkA (h n c : Nat) (D : Nat → Nat) (b : Nat) (A : Nat → Int32) (k : Nat) : Nat → Int32 := itN (fun i A => upI A (plcB h n b i) (nI (wvB h n c D b i))) A k
def CWA (h n c : Nat) (D : Nat → Nat) (A : Nat → Int32) (k : Nat) : Nat → Int32 := itN (fun b A => bkA h n c D b A (szB h n b + c)) A k
def lw8 (M : im_M) : Nat → Int32 := fun k => im_i M 44 k &&& 255
theorem lw8_up {M : im_M} {k x : Nat} {v : Int32} (hx : v &&& 255 = nI x) : lw8 (im_setI M 44 k v) = upI (lw8 M) k (nI x) := funext fun j => by
  unfold lw8 upI
  by_cases e : j = k
  · subst e
    rw [hit, if_pos rfl]
    exact hx
  · rw [sk1 (fun z => e z.2), if_neg e]
theorem lw8_o {M : im_M} {a k : Nat} {v : Int32} (h : a ≠ 44) : lw8 (im_setI M a k v) = lw8 M := funext fun j => by
  unfold lw8
  rw [sk1 (by omega)]
theorem lw8_e {M N : im_M} (h : im_i N 44 = im_i M 44) : lw8 N = lw8 M := funext fun j => by
  unfold lw8
  rw [h]
theorem s_spread {M : im_M} {v l : Nat} {D : Nat → Nat} (qp : PWL M) (hv : 1 ≤ v ∧ v ≤ 40) (hl : l < 4) (hD : ∀ i, i < HO v l → D i < 256 ∧ im_i M 40 i &&& 255 = nI (D i)) : ed (f_HBlocks_spread (nI v) (nI l) M) (fun R => lw8 R = CWA (HO v l) (bcT (jx v l)) (ckT (jx v l)) D (lw8 M) (bcT (jx v l)) ∧ im_i R 43 13 = nI (CW v) ∧ fr (2 ^ 44 ||| 2 ^ 47 ||| 2 ^ 48) [(43, 10), (43, 11), (43, 12), (43, 13)] M R) := by
  obtain ⟨_, _, _, _, n1, n2, k1, k2⟩ := tb_bc ⟨jx v l, jx_lt hv hl⟩
  obtain ⟨o1, o2, o3, o4, o5, _⟩ := tb_hold ⟨v, by omega⟩ ⟨l, hl⟩ hv.1
  replace n1 : 1 ≤ bcT (jx v l) := n1
  replace n2 : bcT (jx v l) ≤ 81 := n2
  replace k1 : 7 ≤ ckT (jx v l) := k1
  replace k2 : ckT (jx v l) ≤ 30 := k2
  replace o1 : bcT (jx v l) * ckT (jx v l) ≤ CW v := o1
  replace o2 : HO v l ≤ 2956 := o2
  replace o3 : bcT (jx v l) ≤ HO v l := o3
  replace o4 : HO v l / bcT (jx v l) + 1 + ckT (jx v l) ≤ 255 := o4
  replace o5 : CW v ≤ 3706 := o5
  have hs : HO v l + bcT (jx v l) * ckT (jx v l) = CW v := by unfold HO at *; omega
  have q0 := s_beginB (M := M) hv hl
  generalize HO v l = h at *
  generalize bcT (jx v l) = n at *
  generalize ckT (jx v l) = c at *
  have hq1 : 1 ≤ h / n := (Nat.le_div_iff_mul_le (by omega)).mpr (by omega)
  unfold f_HBlocks_spread
  apply bd1_mk
  refine ed_mono q0 ?_
  rintro M1 ⟨b1, f1⟩
  apply bd1_mk
  refine ed_mono (s_genC b1 (PWL_fr f1 (by decide +kernel) qp) k2) ?_
  rintro M2 ⟨g2, f2⟩
  have fa : fr (2 ^ 44 ||| 2 ^ 47 ||| 2 ^ 48) [(43, 10), (43, 11), (43, 12), (43, 13)] M M2 := fr_tr (fr_mono (by decide) (by simp) f2) (fr_mono (by decide) (by decide) f1)
  have b2 := BK_fr f2 (by decide +kernel) b1
  have l2 : lw8 M2 = lw8 M := lw8_e ((fr_c f2 44 (by decide) (by simp)).trans (fr_c f1 44 (by decide) (by decide)))
  rw [← l2]
  have all : ed (lp (uc3 (f_HBlocks_spread_L16)) (0, 0, M2)) (fun R => lw8 R = CWA h n c D (lw8 M2) n ∧ fr (2 ^ 44 ||| 2 ^ 48) [] M2 R) := by
    refine lp_for (S := Nat → Int32) (fun b A (s : Int32 × Int32 × im_M) => s.1 = nI (srB h n b) ∧ s.2.1 = nI b ∧ lw8 s.2.2 = A ∧ fr (2 ^ 44 ||| 2 ^ 48) [] M2 s.2.2) (Q := fun A R => lw8 R = A ∧ fr (2 ^ 44 ||| 2 ^ 48) [] M2 R) n (fun b A => bkA h n c D b A (szB h n b + c)) ?_ ?_ ⟨rfl, rfl, rfl, fr_refl⟩
    · rintro b A ⟨x4, x5, M6⟩ hb ⟨e1, e2, e3, f6⟩
      replace e1 : x4 = nI (srB h n b) := e1
      replace e2 : x5 = nI b := e2
      replace e3 : lw8 M6 = A := e3
      replace f6 : fr (2 ^ 44 ||| 2 ^ 48) [] M2 M6 := f6
      subst e1 e2
      show ed (f_HBlocks_spread_L16 (nI (srB h n b)) (nI b) M6) _
      unfold f_HBlocks_spread_L16
      have b6 := BK_fr f6 (by decide +kernel) b2
      have sb := szB_b (h := h) (n := n) (b := b)
      have sh := srB_h (h := h) (n := n) (b := b) (by omega) hb
      have s1 : 1 ≤ szB h n b := by unfold szB; omega
      have pl : ∀ i, i < szB h n b + c → plcB h n b i < 3706 := fun i hi => by
        have := plcB_lt (h := h) (n := n) (c := c) (b := b) (i := i) (by omega) hb hi
        omega
      rw [b6.2.1, if_nIl (by omega) (by omega), if_neg (by omega), s_sizeOf b6 (by omega) ⟨n1, n2⟩ (by omega), bd1_s]
      apply bd1_mk
      -- the bytes
      refine ed_mono (lp_for (S := Nat → Int32) (fun i A (s : Int32 × im_M) => s.1 = nI i ∧ lw8 s.2 = A ∧ (∀ j, j < i → im_i s.2 48 j = nI (D (srB h n b + j))) ∧ fr (2 ^ 44 ||| 2 ^ 48) [] M2 s.2) (Q := fun A R => lw8 R = A ∧ (∀ j, j < szB h n b → im_i R 48 j = nI (D (srB h n b + j))) ∧ fr (2 ^ 44 ||| 2 ^ 48) [] M2 R) (szB h n b) (fun i A => upI A (plcB h n b i) (nI (wvB h n c D b i))) ?_ ?_ (s := A) ⟨rfl, e3, fun j hj => absurd hj (Nat.not_lt_zero _), f6⟩) ?_
      · rintro i A ⟨x12, M13⟩ hi ⟨e1, e2, w13, f13⟩
        replace e1 : x12 = nI i := e1
        replace e2 : lw8 M13 = A := e2
        replace w13 : ∀ j, j < i → im_i M13 48 j = nI (D (srB h n b + j)) := w13
        replace f13 : fr (2 ^ 44 ||| 2 ^ 48) [] M2 M13 := f13
        subst e1
        show ed (f_HBlocks_spread_L36 (nI (srB h n b)) (nI b) (nI (szB h n b)) (nI i) M13) _
        unfold f_HBlocks_spread_L36
        obtain ⟨d1, d2⟩ := hD (srB h n b + i) (by omega)
        have a40 : im_i M13 40 (srB h n b + i) &&& 255 = nI (D (srB h n b + i)) := by
          rw [fr_c f13 40 (by decide) (by simp), fr_c fa 40 (by decide) (by decide)]
          exact d2
        have b13 := BK_fr f13 (by decide +kernel) b2
        have b14 : BK (im_setI M13 48 i (nI (D (srB h n b + i)))) h n c (CW v) := BK_fr (show fr (2 ^ 48) [] M13 (im_setI M13 48 i (nI (D (srB h n b + i)))) from fr_I (by decide) fr_refl) (by decide +kernel) b13
        have p := pl i (by omega)
        have wv : wvB h n c D b i = D (srB h n b + i) := if_pos hi
        rw [if_nIl (by omega) (by omega), if_neg (by omega), nI_add, gd_pos (by rw [inb_nI (by omega)]; omega), gd_pos (by rw [inb_nI (by omega)]; omega), nI_clamp (by omega), nI_clamp (by omega), a40, s_placeOf b14 (by omega) ⟨n1, n2⟩ hb (by omega), bd1_s, gd_pos (by rw [inb_nI (by omega)]; omega), gd_pos (by rw [inb_nI (by omega)]; omega), nI_clamp (by omega), sk1 (by omega)]
        refine ed_mk ⟨_, rfl, nI_add i 1, ?_, fun j hj => ?_, fr_I (by decide) (fr_I (by decide) f13)⟩
        · show lw8 (im_setI (im_setI M13 48 i _) 44 (plcB h n b i) _) = _
          rw [lw8_up (x := D (srB h n b + i)) (by rw [nar_255]; exact a40), lw8_o (by decide), e2, wv]
        · show im_i (im_setI (im_setI M13 48 i _) 44 (plcB h n b i) _) 48 j = _
          rw [sk1 (by omega)]
          by_cases e : j = i
          · subst e; exact hit
          · rw [sk1 (fun z => e z.2)]; exact w13 j (by omega)
      · rintro A ⟨x12, M13⟩ ⟨e1, e2, w13, f13⟩
        replace e1 : x12 = nI (szB h n b) := e1
        subst e1
        show ed (f_HBlocks_spread_L36 (nI (srB h n b)) (nI b) (nI (szB h n b)) (nI (szB h n b)) M13) _
        unfold f_HBlocks_spread_L36
        rw [if_pos (by rw [nIl (by omega) (by omega)]; omega)]
        exact ed_mk ⟨_, rfl, e2, w13, f13⟩
      · rintro M15 ⟨e15, w15, f15⟩
        have f15a := f15
        apply bd1_mk
        refine ed_mono (s_divideC (d := fun i => D (srB h n b + i)) (BK_fr f15 (by decide +kernel) b2) (PWL_fr f15 (by decide +kernel) (PWL_fr fa (by decide +kernel) qp)) ⟨by omega, k2⟩ ⟨s1, by omega⟩ (fun j hj => by rw [fr_c f15 47 (by decide) (by simp)]; exact g2 j hj) (fun i hi => ⟨(hD _ (by omega)).1, w15 i hi⟩)) ?_
        rintro M16 ⟨r16, f16⟩
        have e16 : lw8 M16 = bkA h n c D b A (szB h n b) := (lw8_e (fr_c f16 44 (by decide) (by simp))).trans e15
        have f16a : fr (2 ^ 44 ||| 2 ^ 48) [] M2 M16 := fr_tr (fr_mono (by decide) (by simp) f16) f15
        apply bd1_mk
        refine ed_mono (lp_inv (fun m (s : Int32 × im_M) => ∃ j : Nat, j + m = c ∧ s.1 = nI (szB h n b + j) ∧ lw8 s.2 = bkA h n c D b A (szB h n b + j) ∧ (∀ j, j < c → im_i s.2 48 (szB h n b + j) = nI (RM c (fun i => D (srB h n b + i)) (szB h n b) j)) ∧ fr (2 ^ 44 ||| 2 ^ 48) [] M2 s.2) (Q := fun R => lw8 R = bkA h n c D b A (szB h n b + c) ∧ fr (2 ^ 44 ||| 2 ^ 48) [] M2 R) ?_ (k := c) ⟨0, by omega, rfl, e16, r16, f16a⟩) ?_
        · rintro m ⟨x21, M22⟩ ⟨j, hj, e1, e2, r22, f22⟩
          replace e1 : x21 = nI (szB h n b + j) := e1
          replace e2 : lw8 M22 = bkA h n c D b A (szB h n b + j) := e2
          replace r22 : ∀ j, j < c → im_i M22 48 (szB h n b + j) = nI (RM c (fun i => D (srB h n b + i)) (szB h n b) j) := r22
          replace f22 : fr (2 ^ 44 ||| 2 ^ 48) [] M2 M22 := f22
          subst e1
          show ed (f_HBlocks_spread_L97 (nI (srB h n b)) (nI b) (nI (szB h n b)) (nI (szB h n b + j)) M22) _
          unfold f_HBlocks_spread_L97
          have b22 := BK_fr f22 (by decide +kernel) b2
          rw [b22.2.2.1, nI_add, if_nIl (by omega) (by omega)]
          by_cases y : szB h n b + c ≤ szB h n b + j
          · rw [if_pos y]
            obtain rfl : j = c := by omega
            exact lpo_r ⟨e2, f22⟩
          · have p := pl (szB h n b + j) (by omega)
            have rl := RM_lt (c := c) (d := fun i => D (srB h n b + i)) (szB h n b) j
            have wv : wvB h n c D b (szB h n b + j) = RM c (fun i => D (srB h n b + i)) (szB h n b) j := by
              unfold wvB
              rw [if_neg (by omega), Nat.add_sub_cancel_left]
            rw [if_neg y, s_placeOf b22 (by omega) ⟨n1, n2⟩ hb (by omega), bd1_s, gd_pos (by rw [inb_nI (by omega)]; omega), gd_pos (by rw [inb_nI (by omega)]; omega), nI_clamp (by omega), nI_clamp (by omega), r22 j (by omega)]
            refine lpo_l (m - 1) (by omega) ⟨j + 1, by omega, nI_add (szB h n b + j) 1, ?_, fun u hu => ?_, fr_I (by decide) f22⟩
            · show lw8 (im_setI M22 44 (plcB h n b (szB h n b + j)) _) = _
              rw [lw8_up (x := RM c (fun i => D (srB h n b + i)) (szB h n b) j) (by rw [byte_255]; exact n255 ⟨_, rl⟩), e2, ← wv]
              rfl
            · show im_i (im_setI M22 44 _ _) 48 (szB h n b + u) = _
              rw [sk1 (by omega)]
              exact r22 u hu
        · rintro M24 ⟨e24, f24⟩
          rw [nI_add]
          exact ed_mk ⟨_, rfl, rfl, nI_add b 1, e24, f24⟩
    · rintro A ⟨x4, x5, M6⟩ ⟨e1, e2, e3, f6⟩
      replace e2 : x5 = nI n := e2
      subst e2
      show ed (f_HBlocks_spread_L16 x4 (nI n) M6) _
      unfold f_HBlocks_spread_L16
      rw [(BK_fr f6 (by decide +kernel) b2).2.1, if_pos (by rw [nIl (by omega) (by omega)]; omega)]
      exact ed_mk ⟨_, rfl, e3, f6⟩
  apply bd1_mk
  refine ed_mono all ?_
  rintro R ⟨r1, r2⟩
  refine ed_mk ⟨r1, ?_, fr_tr (fr_mono (by decide) (by simp) r2) fa⟩
  rw [r2.1 43 13 (by decide) (by simp)]
  exact b2.2.2.2
