/-! MODULES READ INTO CODEWORDS, BY BOTH -/
abbrev RS2 := (Nat → Bool) × Nat
def rdS (F : Nat → Int32) (g : Nat → Nat → Bool) (x y : Nat) (s : RS2) : RS2 := if F (177 * y + x) = 0 then (fun c => if c = s.2 then g x y else s.1 c, s.2 + 1) else s
def colD (n : Nat) (F : Nat → Int32) (g : Nat → Nat → Bool) (p : Nat) (s : RS2) : RS2 := itN (fun k s => rdS F g (rtC n p - k % 2) (ycO n p (k / 2)) s) s (2 * n)
def allD (n : Nat) (F : Nat → Int32) (g : Nat → Nat → Bool) (s : RS2) : RS2 := itN (fun p s => colD n F g p s) s ((n - 1) / 2)
theorem cold_two {n p : Nat} {F : Nat → Int32} {g : Nat → Nat → Bool} {s : RS2} : colD n F g p s = itN (fun i s => rdS F g (rtC n p - 1) (ycO n p i) (rdS F g (rtC n p) (ycO n p i) s)) s n := by
  unfold colD
  rw [itN_two]
  congr 1
  funext i s
  have a : (2 * i + 1) % 2 = 1 := by omega
  have b : (2 * i) % 2 = 0 := by omega
  have c : (2 * i + 1) / 2 = i := by omega
  have d : 2 * i / 2 = i := by omega
  rw [a, b, c, d, Nat.sub_zero]
theorem rd_stp {F : Nat → Int32} {g : Nat → Nat → Bool} (x y : Nat) (a : RS2) : (rdS F g x y a).2 ≤ a.2 + 1 := by
  unfold rdS
  split
  · exact Nat.le_refl _
  · exact Nat.le_succ _
theorem rd_c {F F' : Nat → Int32} {g g' : Nat → Nat → Bool} {x y : Nat} {s : RS2} (hF : F (177 * y + x) = F' (177 * y + x)) (hg : F (177 * y + x) = 0 → g x y = g' x y) : rdS F g x y s = rdS F' g' x y s := by
  unfold rdS
  rw [← hF]
  by_cases z : F (177 * y + x) = 0
  · rw [if_pos z, if_pos z, hg z]
  · rw [if_neg z, if_neg z]
theorem alld_c {n : Nat} {F F' : Nat → Int32} {g g' : Nat → Nat → Bool} {s : RS2} (hn : 21 ≤ n ∧ n % 2 = 1) (hF : ∀ x y, x < n → y < n → F (177 * y + x) = F' (177 * y + x)) (hg : ∀ x y, x < n → y < n → F (177 * y + x) = 0 → g x y = g' x y) : allD n F g s = allD n F' g' s := by
  refine itN_rel (R := fun _ (a b : RS2) => a = b) (f := fun p s => colD n F g p s) (g := fun p s => colD n F' g' p s) (s := s) (t := s) rfl ((n - 1) / 2) (fun p a b hp e => ?_)
  subst e
  refine itN_rel (R := fun _ (a b : RS2) => a = b) (f := fun k s => rdS F g (rtC n p - k % 2) (ycO n p (k / 2)) s) (g := fun k s => rdS F' g' (rtC n p - k % 2) (ycO n p (k / 2)) s) (s := a) (t := a) rfl (2 * n) (fun k a b hk e => ?_)
  subst e
  obtain ⟨b1, b2, b3⟩ := cy_b (n := n) (p := p) (i := k / 2) hn hp (by omega)
  exact rd_c (hF _ _ (by omega) b3) (hg _ _ (by omega) b3)
/-! bits of one entry -/
theorem ib_m1 {j : Nat} (hj : j < 32) : ib (-1) j = true := (show ∀ j : Fin 32, ib (-1) j.val = true by decide +kernel) ⟨j, hj⟩
theorem ib_nar {x : Int32} {j : Nat} (hj : j < 8) : ib (vp_nar .byte (x.toInt8.toInt32)) j = ib x j := by
  have e255 : ib 255 j = true := (show ∀ k : Fin 8, ib 255 k.val = true by decide +kernel) ⟨j, hj⟩
  have e : ib ((vp_nar .byte (x.toInt8.toInt32)) &&& 255) j = ib (x &&& 255) j := by rw [byte_255]
  rw [ib_and, ib_and, e255, Bool.and_true, Bool.and_true] at e
  exact e
theorem ib_clr {a : Int32} {s j : Nat} (hs : s < 32) (hj : j < 32) : ib (a &&& (((1 : Int32) <<< (iZ (s : Int) &&& 31) : Int32) ^^^ (-1))) j = (ib a j && !decide (j = s)) := by
  rw [ib_and, ib_xor, ib_one hs hj, ib_m1 hj]
  cases ib a j <;> cases decide (j = s) <;> rfl
theorem ib_set {a : Int32} {s j : Nat} (hs : s < 32) (hj : j < 32) : ib (a ||| ((1 : Int32) <<< (iZ (s : Int) &&& 31) : Int32)) j = (ib a j || decide (j = s)) := by
  rw [ib_or, ib_one hs hj]
theorem ib_bI : ∀ (b : Bool) (j : Fin 32), ib (bI b) j.val = (b && decide (j.val = 0)) := by decide +kernel
theorem ib_bsh {b : Bool} {s j : Nat} (hs : s < 32) (hj : j < 32) : ib (bI b <<< (iZ (s : Int) &&& 31) : Int32) j = (b && decide (j = s)) := by
  rw [ib_shl hs hj]
  by_cases c : s ≤ j
  · rw [decide_eq_true c, Bool.true_and, ib_bI b ⟨j - s, by omega⟩]
    show (b && decide (j - s = 0)) = _
    congr 1
    by_cases e : j = s
    · rw [decide_eq_true e, decide_eq_true (by omega)]
    · rw [decide_eq_false e, decide_eq_false (by omega)]
  · rw [decide_eq_false c, Bool.false_and, decide_eq_false (show ¬ j = s by omega), Bool.and_false]
/-! the class -/
def CRg (M0 M : im_M) (n : Nat) (F : Nat → Int32) (g : Nat → Nat → Bool) (s : RS2) : Prop := im_i M 38 1 = nI n ∧ im_i M 55 = F ∧ (∀ x y, x < n → y < n → F (177 * y + x) = 0 → im_i M 54 (177 * y + x) = bI (g x y)) ∧ (∀ c, c < s.2 → c < 29648 → ib (im_i M 44 (c / 8)) (7 - c % 8) = s.1 c) ∧ fr (2 ^ 44) [] M0 M
theorem s_putB {M : im_M} {c : Nat} {b : Bool} (hc : c ≤ 100000) : ed (f_HBlocks_putBit (nI c) (bI b) M) (fun R => (∀ d, d < 29648 → ib (im_i R 44 (d / 8)) (7 - d % 8) = if d = c then b else ib (im_i M 44 (d / 8)) (7 - d % 8)) ∧ fr (2 ^ 44) [] M R) := by
  unfold f_HBlocks_putBit
  have d8 : nI c / 8 = nI (c / 8) := nI_div (b := 8) (by omega) (by omega) (by omega)
  have r8 : nI c - nI (c / 8) * 8 = nI (c % 8) := by rw [← d8]; exact nI_rem (b := 8) (by omega) (by omega) (by omega)
  have s7 : (7 : Int32) - nI (c % 8) = iZ ((7 - c % 8 : Nat) : Int) := by rw [show (7 : Int32) = nI 7 from rfl, nI_sb (by omega), iZ_nI]
  have k0 : (nI (c / 8) < 3706) = (c / 8 < 3706) := nIlt (c := 3706) (by omega) (by omega)
  rw [d8, r8, s7]
  simp only [k0, bI_0]
  by_cases z : c / 8 < 3706
  · rw [if_pos z, nI_clamp (by omega)]
    have fin : ∀ v : Int32, (∀ j, j < 8 → ib v j = if j = 7 - c % 8 then b else ib (im_i M 44 (c / 8)) j) → ed (gd (inb (nI (c / 8)) 3706) <| some (im_setI M 44 (c / 8) (vp_nar .byte ((Int32.toInt8 v).toInt32)))) (fun R => (∀ d, d < 29648 → ib (im_i R 44 (d / 8)) (7 - d % 8) = if d = c then b else ib (im_i M 44 (d / 8)) (7 - d % 8)) ∧ fr (2 ^ 44) [] M R) := fun v hv => by
      rw [gd_pos (by rw [inb_nI (by omega)]; omega)]
      refine ed_mk ⟨fun d hd => ?_, fr_I (by decide) fr_refl⟩
      by_cases e : d / 8 = c / 8
      · rw [e, hit, ib_nar (by omega), hv _ (by omega)]
        by_cases w : d = c
        · rw [if_pos w, if_pos (by omega)]
        · rw [if_neg w, if_neg (by omega)]
      · rw [sk1 (fun y => e y.2), if_neg (fun y => e (by rw [y]))]
    cases b with
    | false =>
      rw [if_pos rfl, gd_pos (by rw [inb_nI (by omega)]; omega), bd1_s]
      refine fin _ (fun j hj => ?_)
      rw [ib_clr (by omega) (by omega)]
      by_cases w : j = 7 - c % 8
      · rw [if_pos w, decide_eq_true w]
        cases ib (im_i M 44 (c / 8)) j <;> rfl
      · rw [if_neg w, decide_eq_false w]
        cases ib (im_i M 44 (c / 8)) j <;> rfl
    | true =>
      rw [if_neg (by decide), gd_pos (by rw [inb_nI (by omega)]; omega), bd1_s]
      refine fin _ (fun j hj => ?_)
      rw [ib_set (by omega) (by omega)]
      by_cases w : j = 7 - c % 8
      · rw [if_pos w, decide_eq_true w, Bool.or_true]
      · rw [if_neg w, decide_eq_false w, Bool.or_false]
  · rw [if_neg z]
    exact ed_mk ⟨fun d hd => by rw [if_neg (by omega)], fr_refl⟩
theorem s_carryBit0 {M0 M : im_M} {n x y : Nat} {F : Nat → Int32} {g : Nat → Nat → Bool} {s : RS2} (h : CRg M0 M n F g s) (hn : n ≤ 177) (hx : x < n) (hy : y < n) (hc : s.2 ≤ 100000) : ed (f_HGrid_carryBit 0 (nI s.2) (nI x) (nI y) M) (fun r => r.1 = nI (rdS F g x y s).2 ∧ CRg M0 r.2 n F g (rdS F g x y s)) := by
  have hh := h
  obtain ⟨h1, h2, h3, h4, h5⟩ := h
  unfold f_HGrid_carryBit rdS
  have e : nI y * 177 + nI x = nI (177 * y + x) := by rw [show (177 : Int32) = nI 177 from rfl, nI_mul, nI_add, Nat.mul_comm]
  rw [e, gd_pos (by rw [inb_nI (by omega)]; omega), nI_clamp (by omega), h2]
  by_cases z : F (177 * y + x) = 0
  · rw [if_pos z, if_pos z, if_pos rfl]
    have dk : f_HGrid_isDark (nI x) (nI y) M = some (bI (g x y)) := by
      unfold f_HGrid_isDark
      rw [e, gd_pos (by rw [inb_nI (by omega)]; omega), nI_clamp (by omega), h3 x y hx hy z]
      cases g x y <;> rfl
    rw [dk, bd1_s]
    apply bd1_mk
    apply bd1_mk
    refine ed_mono (s_putB hc) ?_
    rintro R ⟨r1, r2⟩
    refine ed_mk (ed_mk ⟨nI_add s.2 1, ?_, ?_, fun a b ha hb hz => ?_, fun c hc1 hc2 => ?_, fr_tr r2 h5⟩)
    · rw [r2.1 38 1 (by decide) (by simp)]; exact h1
    · rw [fr_c r2 55 (by decide) (by simp)]; exact h2
    · rw [r2.1 54 _ (by decide) (by simp)]; exact h3 a b ha hb hz
    · show _ = if c = s.2 then g x y else s.1 c
      replace hc1 : c < s.2 + 1 := hc1
      rw [r1 c hc2]
      by_cases w : c = s.2
      · rw [if_pos w, if_pos w]
      · rw [if_neg w, if_neg w]
        exact h4 c (by omega) hc2
  · rw [if_neg z, if_neg z]
    exact ed_mk ⟨rfl, hh⟩
theorem s_carryD {M0 M : im_M} {n : Nat} {F : Nat → Int32} {g : Nat → Nat → Bool} {T : Nat → Bool} (h : CRg M0 M n F g (T, 0)) (hn : 21 ≤ n ∧ n ≤ 177 ∧ n % 2 = 1) : ed (f_HGrid_carry 0 M) (fun R => CRg M0 R n F g (allD n F g (T, 0))) := by
  unfold f_HGrid_carry
  apply bd1_mk
  refine ed_mono (lp_for (S := RS2) (fun p s (t : Int32 × Int32 × im_M) => t.1 = nI s.2 ∧ t.2.1 = nI p ∧ CRg M0 t.2.2 n F g s ∧ s.2 ≤ 2 * n * p) (Q := fun s R => CRg M0 R n F g s) ((n - 1) / 2) (fun p s => colD n F g p s) ?_ ?_ (s := (T, 0)) ⟨rfl, rfl, h, Nat.zero_le _⟩) (fun R h => ed_mk h)
  · rintro p s ⟨x3, x4, M5⟩ hp ⟨e1, e2, h5, c5⟩
    replace e1 : x3 = nI s.2 := e1
    replace e2 : x4 = nI p := e2
    replace h5 : CRg M0 M5 n F g s := h5
    subst e1 e2
    show ed (f_HGrid_carry_L4 0 (nI s.2) (nI p) M5) _
    unfold f_HGrid_carry_L4
    have pn : 2 * n * p ≤ 2 * n * 88 := Nat.mul_le_mul_left _ (by omega)
    have d2 : nI (n - 1) / 2 = nI ((n - 1) / 2) := nI_div (b := 2) (by omega) (by omega) (by omega)
    have e2 : (2 : Int32) * nI p = nI (2 * p) := nI_m 2
    have sb : nI (n - 1) - nI (2 * p) = nI (n - 1 - 2 * p) := nI_sb (by omega)
    have k6 : ((6 : Int32) < nI (n - 1 - 2 * p)) = (6 < n - 1 - 2 * p) := nIlt (x := 6) (by omega) (by omega)
    have ep : nI (n - 1 - 2 * p) + (-1) = nI (n - 1 - 2 * p - 1) := by
      have := nI_m1 (n := n - 1 - 2 * p) (by omega)
      rw [← this, Int32.sub_eq_add_neg]
    have er : ((if 6 < n - 1 - 2 * p then nI (n - 1 - 2 * p) else nI (n - 1 - 2 * p - 1)) : Int32) = nI (rtC n p) := by
      unfold rtC
      split <;> rfl
    rw [h5.1, nI_m1 (by omega), d2, if_nIl (by omega) (by omega), if_neg (by omega), e2, sb, ep]
    simp only [k6]
    rw [er]
    apply bd2_mk
    refine ed_mono (lp_for (S := RS2) (fun i a (t : Int32 × Int32 × im_M) => t.1 = nI a.2 ∧ t.2.1 = nI i ∧ CRg M0 t.2.2 n F g a ∧ a.2 ≤ s.2 + 2 * i) (Q := fun a (r : Int32 × im_M) => r.1 = nI a.2 ∧ CRg M0 r.2 n F g a ∧ a.2 ≤ s.2 + 2 * n) n (fun i a => rdS F g (rtC n p - 1) (ycO n p i) (rdS F g (rtC n p) (ycO n p i) a)) ?_ ?_ (s := s) ⟨rfl, rfl, h5, Nat.le_refl _⟩) ?_
    · rintro i a ⟨x11, x12, M13⟩ hi ⟨e1, e2, h13, c13⟩
      replace e1 : x11 = nI a.2 := e1
      replace e2 : x12 = nI i := e2
      replace h13 : CRg M0 M13 n F g a := h13
      subst e1 e2
      show ed (f_HGrid_carry_L41 0 (nI p) (nI (rtC n p)) (nI a.2) (nI i) M13) _
      unfold f_HGrid_carry_L41
      obtain ⟨b1, b2, b3⟩ := cy_b (n := n) (p := p) (i := i) ⟨by omega, hn.2.2⟩ hp hi
      have k2 : (nI (p % 2) = 0) = (p % 2 = 0) := nIe (c := 0) (by omega) (by omega)
      have ey : ((if ¬ (nI p - nI p / 2 * 2) = 0 then nI i else ((nI n - 1) - nI i)) : Int32) = nI (ycO n p i) := by
        rw [nI_odd (by omega), nI_m1 (by omega), nI_sb (by omega)]
        unfold ycO
        simp only [k2]
        by_cases y : p % 2 = 0
        · rw [if_neg (fun w => w y), if_pos y]
        · rw [if_pos y, if_neg y]
      rw [h13.1, if_nIl (by omega) (by omega), if_neg (by omega), ey]
      apply bd2_mk
      refine ed_mono (s_carryBit0 h13 hn.2.1 b2 b3 (by omega)) ?_
      rintro ⟨x15, M15⟩ ⟨r1, r2⟩
      replace r1 : x15 = nI (rdS F g (rtC n p) (ycO n p i) a).2 := r1
      subst r1
      have q1 := rd_stp (F := F) (g := g) (rtC n p) (ycO n p i) a
      generalize rdS F g (rtC n p) (ycO n p i) a = a1 at r2 q1 ⊢
      rw [nI_m1 b1]
      apply bd2_mk
      refine ed_mono (s_carryBit0 r2 hn.2.1 (by omega) b3 (by omega)) ?_
      rintro ⟨x16, M16⟩ ⟨r3, r4⟩
      have q2 := rd_stp (F := F) (g := g) (rtC n p - 1) (ycO n p i) a1
      exact ed_mk ⟨_, rfl, r3, nI_add i 1, r4, by omega⟩
    · rintro a ⟨x11, x12, M13⟩ ⟨e1, e2, h13, c13⟩
      replace e1 : x11 = nI a.2 := e1
      replace e2 : x12 = nI n := e2
      replace h13 : CRg M0 M13 n F g a := h13
      subst e1 e2
      show ed (f_HGrid_carry_L41 0 (nI p) (nI (rtC n p)) (nI a.2) (nI n) M13) _
      unfold f_HGrid_carry_L41
      rw [h13.1, if_pos (by rw [nIl (by omega) (by omega)]; omega)]
      exact ed_mk ⟨_, rfl, rfl, h13, c13⟩
    · rintro ⟨y17, M18⟩ ⟨r1, r2, r3⟩
      rw [← cold_two] at r1 r2 r3
      replace r1 : y17 = nI (colD n F g p s).2 := r1
      refine ed_mk ⟨_, rfl, r1, nI_add p 1, r2, ?_⟩
      rw [Nat.mul_succ]
      omega
  · rintro s ⟨x3, x4, M5⟩ ⟨e1, e2, h5, c5⟩
    replace e2 : x4 = nI ((n - 1) / 2) := e2
    replace h5 : CRg M0 M5 n F g s := h5
    subst e2
    show ed (f_HGrid_carry_L4 0 x3 (nI ((n - 1) / 2)) M5) _
    unfold f_HGrid_carry_L4
    have d2 : nI (n - 1) / 2 = nI ((n - 1) / 2) := nI_div (b := 2) (by omega) (by omega) (by omega)
    rw [h5.1, nI_m1 (by omega), d2, if_pos (by rw [nIl (by omega) (by omega)]; omega)]
    exact ed_mk ⟨_, rfl, h5⟩
/-! the reference -/
theorem B8_hi {f : Nat → Int32} (h : B8 f) {k j : Nat} (h8 : 8 ≤ j) (hj : j < 32) : ib (f k) j = false := by
  obtain ⟨b, b1, b2⟩ := h k
  rw [b2, ib_nI hj]
  exact Nat.testBit_lt_two_pow (Nat.lt_of_lt_of_le b1 (Nat.le_trans (show 256 ≤ 2 ^ 8 by decide) (Nat.pow_le_pow_right (by omega) h8)))
theorem by_hi {x : Int32} (h : ∀ j, 8 ≤ j → j < 32 → ib x j = false) : ∃ b : Nat, b < 256 ∧ x = nI b := by
  obtain ⟨n, hn, e⟩ := by255 (x := x)
  refine ⟨n, hn, ?_⟩
  rw [← e]
  refine ib_ext fun j hj => ?_
  have e255 : ib 255 j = decide (j < 8) := (show ∀ k : Fin 32, ib 255 k.val = decide (k.val < 8) by decide +kernel) ⟨j, hj⟩
  rw [ib_and, e255]
  by_cases c : j < 8
  · rw [decide_eq_true c, Bool.and_true]
  · rw [decide_eq_false c, Bool.and_false]
    exact h j (by omega) hj
def RRg (M0 M : im_M) (n W : Nat) (F : Nat → Int32) (g : Nat → Nat → Bool) (s : RS2) : Prop := im_i M 108 8 = nI n ∧ im_i M 113 = F ∧ (∀ x y, x < n → y < n → F (177 * y + x) = 0 → im_i M 112 (177 * y + x) = bI (g x y)) ∧ (∀ c, c < s.2 → c < 8 * W → ib (im_i M 120 (c / 8)) (7 - c % 8) = s.1 c) ∧ B8 (im_i M 120) ∧ fr (2 ^ 120) [] M0 M
theorem s_throughU {M0 M : im_M} {n W m p r k : Nat} {F : Nat → Int32} {g : Nat → Nat → Bool} {s : RS2} {uw : Int32} (h : RRg M0 M n W F g s) (hn : 21 ≤ n ∧ n ≤ 177 ∧ n % 2 = 1) (hW : W ≤ 3706) (hp : p < (n - 1) / 2) (hr : r = rtC n p) (hu : uw = if p % 2 = 0 then 1 else 0) (hk : k < 2 * n) (hc : s.2 ≤ 100000) : ed (f_MSquareRows_goThrough_L37 (nI m) 1 (nI W) uw (nI r) (nI s.2) (nI k) M) (fun z => ∃ t', z = Sum.inl t' ∧ t'.1 = nI (rdS F (fun x y => Bool.xor (g x y) (tnB m x y)) (rtC n p - k % 2) (ycO n p (k / 2)) s).2 ∧ t'.2.1 = nI (k + 1) ∧ RRg M0 t'.2.2 n W F g (rdS F (fun x y => Bool.xor (g x y) (tnB m x y)) (rtC n p - k % 2) (ycO n p (k / 2)) s)) := by
  have hh := h
  obtain ⟨h1, h2, h4, h5, h6, h7⟩ := h
  obtain ⟨b1, b2, b3⟩ := cy_b (n := n) (p := p) (i := k / 2) ⟨by omega, hn.2.2⟩ hp (by omega)
  unfold f_MSquareRows_goThrough_L37 rdS
  have e2 : (2 : Int32) * nI n = nI (2 * n) := nI_m 2
  have d2 : nI k / 2 = nI (k / 2) := nI_div (b := 2) (by omega) (by omega) (by omega)
  have r2 : nI k - nI (k / 2) * 2 = nI (k % 2) := by rw [← d2]; exact nI_rem (b := 2) (by omega) (by omega) (by omega)
  have ku : (uw = 0) = ¬ (p % 2 = 0) := by
    rw [hu]
    by_cases y : p % 2 = 0
    · rw [if_pos y]; exact propext ⟨fun z => absurd z (by decide), fun z => absurd y z⟩
    · rw [if_neg y]; exact propext ⟨fun _ => y, fun _ => rfl⟩
  have ey : (if uw = 0 then some (nI (k / 2)) else some ((nI n - 1) - nI (k / 2))) = some (nI (ycO n p (k / 2))) := by
    simp only [ku]
    unfold ycO
    by_cases y : p % 2 = 0
    · rw [if_neg (fun w => w y), if_pos y, nI_m1 (by omega), nI_sb (by omega)]
    · rw [if_pos y, if_neg y]
  have ex : nI r - nI (k % 2) = nI (rtC n p - k % 2) := by rw [hr, nI_sb (by omega)]
  obtain ⟨x, hx⟩ : ∃ x, x = rtC n p - k % 2 := ⟨_, rfl⟩
  obtain ⟨y, hy⟩ : ∃ y, y = ycO n p (k / 2) := ⟨_, rfl⟩
  rw [← hx] at ex ⊢
  rw [← hy] at ey b3 ⊢
  have e7 : nI x + (177 : Int32) * nI y = nI (177 * y + x) := by rw [nI_m, nI_add, Nat.add_comm]
  rw [h1, e2, if_nIl (by omega) (by omega), if_neg (by omega), d2, ey, bd1_s, r2, ex]
  unfold f_MSquareRows_moduleAt
  rw [bd1_s, e7, gd_pos (by rw [inb_nI (by omega)]; omega), nI_clamp (by omega), h2]
  by_cases z : F (177 * y + x) = 0
  · rw [if_neg (fun w => w z), if_pos z, mask_v, bd1_s]
    simp only [jn1]
    have e8 : (8 : Int32) * nI W = nI (8 * W) := nI_m 8
    have d8 : nI s.2 / 8 = nI (s.2 / 8) := nI_div (b := 8) (by omega) (by omega) (by omega)
    have r8 : nI s.2 - nI (s.2 / 8) * 8 = nI (s.2 % 8) := by rw [← d8]; exact nI_rem (b := 8) (by omega) (by omega) (by omega)
    have s7 : (7 : Int32) - nI (s.2 % 8) = iZ ((7 - s.2 % 8 : Nat) : Int) := by rw [show (7 : Int32) = nI 7 from rfl, nI_sb (by omega), iZ_nI]
    rw [if_neg (show ¬ (1 : Int32) = 0 by decide), e8, d8, r8, s7, if_nIl (by omega) (by omega)]
    by_cases w : 8 * W ≤ s.2
    · rw [if_pos w, if_pos (show ¬ (1 : Int32) = 0 by decide), bd1_s, bd2_s]
      refine ed_mk ⟨_, rfl, nI_add s.2 1, nI_add k 1, h1, h2, h4, fun c c1 c2 => ?_, h6, h7⟩
      show _ = if c = s.2 then _ else s.1 c
      replace c1 : c < s.2 + 1 := c1
      rw [if_neg (by omega)]
      exact h5 c (by omega) c2
    · rw [if_neg w, gd_pos (by rw [inb_nI (by omega)]; omega), gd_pos (by rw [inb_nI (by omega)]; omega), gd_pos (by rw [inb_nI (by omega)]; omega), nI_clamp (by omega), h4 x y (by omega) b3 z, bI_i, bI_x, bd1_s, bd2_s]
      have bits : ∀ j, j < 32 → ib ((im_i M 120 (s.2 / 8) &&& (((1 : Int32) <<< (iZ ((7 - s.2 % 8 : Nat) : Int) &&& 31 : Int32) : Int32) ^^^ (-1))) ||| (bI (Bool.xor (g x y) (tnB m x y)) <<< (iZ ((7 - s.2 % 8 : Nat) : Int) &&& 31 : Int32) : Int32)) j = if j = 7 - s.2 % 8 then Bool.xor (g x y) (tnB m x y) else ib (im_i M 120 (s.2 / 8)) j := fun j hj => by
        rw [ib_or, ib_clr (by omega) hj, ib_bsh (by omega) hj]
        by_cases e : j = 7 - s.2 % 8
        · rw [if_pos e, decide_eq_true e]
          cases ib (im_i M 120 (s.2 / 8)) j <;> cases Bool.xor (g x y) (tnB m x y) <;> rfl
        · rw [if_neg e, decide_eq_false e]
          cases ib (im_i M 120 (s.2 / 8)) j <;> cases Bool.xor (g x y) (tnB m x y) <;> rfl
      refine ed_mk ⟨_, rfl, nI_add s.2 1, nI_add k 1, ?_, ?_, fun a b ha hb hz => ?_, fun c c1 c2 => ?_, fun q => ?_, fr_I (by decide) h7⟩
      · rw [sk1 (by omega)]; exact h1
      · rw [up_o (by decide)]; exact h2
      · rw [sk1 (by omega)]; exact h4 a b ha hb hz
      · show _ = if c = s.2 then Bool.xor (g x y) (tnB m x y) else s.1 c
        replace c1 : c < s.2 + 1 := c1
        by_cases e : c / 8 = s.2 / 8
        · rw [e, hit, bits _ (by omega)]
          by_cases u : c = s.2
          · rw [if_pos u, if_pos (by omega)]
          · rw [if_neg u, if_neg (by omega), ← e]
            exact h5 c (by omega) c2
        · rw [sk1 (fun u => e u.2), if_neg (fun u => e (by rw [u]))]
          exact h5 c (by omega) c2
      · by_cases e : q = s.2 / 8
        · rw [e, hit]
          refine by_hi fun j j8 hj => ?_
          rw [bits j hj, if_neg (by omega)]
          exact B8_hi h6 j8 hj
        · rw [sk1 (fun u => e u.2)]
          exact h6 q
  · rw [if_pos z, if_neg z, bd2_s]
    exact ed_mk ⟨_, rfl, rfl, nI_add k 1, hh⟩
theorem s_throughD {M0 M : im_M} {n W m : Nat} {F : Nat → Int32} {g : Nat → Nat → Bool} {T : Nat → Bool} (h : RRg M0 M n W F g (T, 0)) (hn : 21 ≤ n ∧ n ≤ 177 ∧ n % 2 = 1) (hW : W ≤ 3706) : ed (f_MSquareRows_goThrough (nI m) 1 (nI W) M) (fun R => RRg M0 R n W F g (allD n F (fun x y => Bool.xor (g x y) (tnB m x y)) (T, 0))) := by
  obtain ⟨G, hG⟩ : ∃ G : Nat → Nat → Bool, G = fun x y => Bool.xor (g x y) (tnB m x y) := ⟨_, rfl⟩
  rw [← hG]
  unfold f_MSquareRows_goThrough
  rw [h.1, nI_m1 (by omega)]
  apply bd1_mk
  refine ed_mono (lp_for (S := RS2) (fun p s (t : Int32 × Int32 × Int32 × im_M) => t.1 = nI s.2 ∧ t.2.1 = (if p % 2 = 0 then 1 else 0) ∧ t.2.2.1 = iZ (if 6 ≤ n - 1 - 2 * p then ((n - 1 - 2 * p : Nat) : Int) else ((n - 1 - 2 * p : Nat) : Int) - 1) ∧ RRg M0 t.2.2.2 n W F g s ∧ s.2 ≤ 2 * n * p) (Q := fun s R => RRg M0 R n W F g s) ((n - 1) / 2) (fun p s => colD n F G p s) ?_ ?_ (s := (T, 0)) ⟨rfl, rfl, ?_, h, Nat.zero_le _⟩) (fun R h => ed_mk h)
  · rintro p s ⟨x5, x6, x7, M8⟩ hp ⟨e1, e2, e3, h8, c8⟩
    replace e1 : x5 = nI s.2 := e1
    replace e2 : x6 = (if p % 2 = 0 then 1 else 0) := e2
    replace e3 : x7 = iZ (if 6 ≤ n - 1 - 2 * p then ((n - 1 - 2 * p : Nat) : Int) else ((n - 1 - 2 * p : Nat) : Int) - 1) := e3
    replace h8 : RRg M0 M8 n W F g s := h8
    obtain ⟨q, hq⟩ : ∃ q, q = n - 1 - 2 * p := ⟨_, rfl⟩
    have q2 : 2 ≤ q ∧ q ≤ 176 := by omega
    have qe : q % 2 = 0 := by omega
    rw [← hq] at e3
    have pn : 2 * n * p ≤ 2 * n * 88 := Nat.mul_le_mul_left _ (by omega)
    have e7 : x7 = nI (if 6 ≤ q then q else q - 1) := by
      rw [e3, iZ_nI]
      congr 1
      by_cases y : 6 ≤ q
      · rw [if_pos y, if_pos y]
      · rw [if_neg y, if_neg y]; omega
    have er : ((if ¬ x7 = 6 then x7 else 5) : Int32) = nI (rtC n p) := by
      have k6 : (nI (if 6 ≤ q then q else q - 1) = 6) = ((if 6 ≤ q then q else q - 1) = 6) := nIe (c := 6) (by split <;> omega) (by omega)
      unfold rtC
      rw [← hq, e7]
      simp only [k6]
      by_cases y : 6 < q
      · rw [if_pos (show 6 ≤ q by omega), if_pos (by omega), if_pos y]
      · rw [if_neg y]
        by_cases w : q = 6
        · rw [if_pos (show 6 ≤ q by omega), if_neg (fun u => u w), w]
          rfl
        · rw [if_neg (show ¬ 6 ≤ q by omega), if_pos (by omega)]
    have ez : ¬ x7 ≤ 0 := by
      rw [e7, show (0 : Int32) = nI 0 from rfl, nIl (by split <;> omega) (by omega)]
      split <;> omega
    have en : nI (rtC n p) + (-2) = iZ (if 6 ≤ n - 1 - 2 * (p + 1) then ((n - 1 - 2 * (p + 1) : Nat) : Int) else ((n - 1 - 2 * (p + 1) : Nat) : Int) - 1) := by
      rw [iZ_nI, show (-2 : Int32) = iZ (-2) from rfl, iZ_add]
      congr 1
      unfold rtC
      rw [← hq, show n - 1 - 2 * (p + 1) = q - 2 by omega]
      by_cases y : 6 < q
      · rw [if_pos y, if_pos (show 6 ≤ q - 2 by omega)]; omega
      · rw [if_neg y, if_neg (show ¬ 6 ≤ q - 2 by omega)]; omega
    have eu : ((if ¬ x6 = 0 then 0 else 1) : Int32) = if (p + 1) % 2 = 0 then 1 else 0 := by
      rw [e2]
      by_cases y : p % 2 = 0
      · rw [if_pos y, if_neg (show ¬ (p + 1) % 2 = 0 by omega)]; decide
      · rw [if_neg y, if_pos (show (p + 1) % 2 = 0 by omega)]; decide
    show ed (f_MSquareRows_goThrough_L14 (nI m) 1 (nI W) x5 x6 x7 M8) _
    unfold f_MSquareRows_goThrough_L14
    rw [if_neg ez, er, en, eu, e1]
    apply bd2_mk
    refine ed_mono (lp_for (S := RS2) (fun k a (t : Int32 × Int32 × im_M) => t.1 = nI a.2 ∧ t.2.1 = nI k ∧ RRg M0 t.2.2 n W F g a ∧ a.2 ≤ s.2 + k) (Q := fun a (r : Int32 × im_M) => r.1 = nI a.2 ∧ RRg M0 r.2 n W F g a ∧ a.2 ≤ s.2 + 2 * n) (2 * n) (fun k a => rdS F G (rtC n p - k % 2) (ycO n p (k / 2)) a) ?_ ?_ (s := s) ⟨rfl, rfl, h8, Nat.le_refl _⟩) ?_
    · rintro k a ⟨x16, x17, M18⟩ hk ⟨f1, f2, h18, c18⟩
      replace f1 : x16 = nI a.2 := f1
      replace f2 : x17 = nI k := f2
      replace h18 : RRg M0 M18 n W F g a := h18
      subst f1 f2
      show ed (f_MSquareRows_goThrough_L37 (nI m) 1 (nI W) x6 (nI (rtC n p)) (nI a.2) (nI k) M18) _
      refine ed_mono (s_throughU (m := m) h18 hn hW hp rfl e2 hk (by omega)) ?_
      rw [← hG]
      rintro z ⟨t', z1, z2, z3, z4⟩
      have q9 := rd_stp (F := F) (g := G) (rtC n p - k % 2) (ycO n p (k / 2)) a
      exact ⟨t', z1, z2, z3, z4, by omega⟩
    · rintro a ⟨x16, x17, M18⟩ ⟨f1, f2, h18, c18⟩
      replace f2 : x17 = nI (2 * n) := f2
      replace h18 : RRg M0 M18 n W F g a := h18
      subst f2
      show ed (f_MSquareRows_goThrough_L37 (nI m) 1 (nI W) x6 (nI (rtC n p)) x16 (nI (2 * n)) M18) _
      unfold f_MSquareRows_goThrough_L37
      have e2 : (2 : Int32) * nI n = nI (2 * n) := nI_m 2
      rw [h18.1, e2, if_pos (by rw [nIl (by omega) (by omega)]; omega)]
      exact ed_mk ⟨_, rfl, f1, h18, c18⟩
    · rintro ⟨y77, M78⟩ ⟨r1, r2, r3⟩
      refine ed_mk ⟨_, rfl, r1, rfl, rfl, r2, ?_⟩
      replace r3 : (colD n F G p s).2 ≤ s.2 + 2 * n := r3
      show (colD n F G p s).2 ≤ 2 * n * (p + 1)
      rw [Nat.mul_succ]
      omega
  · rintro s ⟨x5, x6, x7, M8⟩ ⟨e1, e2, e3, h8, c8⟩
    replace e3 : x7 = iZ (if 6 ≤ n - 1 - 2 * ((n - 1) / 2) then ((n - 1 - 2 * ((n - 1) / 2) : Nat) : Int) else ((n - 1 - 2 * ((n - 1) / 2) : Nat) : Int) - 1) := e3
    rw [show n - 1 - 2 * ((n - 1) / 2) = 0 by omega, if_neg (by omega)] at e3
    show ed (f_MSquareRows_goThrough_L14 (nI m) 1 (nI W) x5 x6 x7 M8) _
    unfold f_MSquareRows_goThrough_L14
    rw [e3, if_pos (by decide)]
    exact ed_mk ⟨_, rfl, h8⟩
  · show nI (n - 1) = iZ (if 6 ≤ n - 1 - 2 * 0 then ((n - 1 - 2 * 0 : Nat) : Int) else ((n - 1 - 2 * 0 : Nat) : Int) - 1)
    rw [if_pos (by omega), iZ_nI]
    rfl
