/-! BITS CARRIED INTO THE MODULES -/
abbrev CS2 := (Nat → Int32) × Nat
/-- one module: the next bit, by f, if it is not fixed -/
def cyS (F : Nat → Int32) (f : Nat → Nat → Nat → Int32) (x y : Nat) (s : CS2) : CS2 := if F (177 * y + x) = 0 then (upI s.1 (177 * y + x) (f s.2 x y), s.2 + 1) else s
def rtC (n p : Nat) : Nat := if 6 < n - 1 - 2 * p then n - 1 - 2 * p else n - 1 - 2 * p - 1
def ycO (n p i : Nat) : Nat := if p % 2 = 0 then n - 1 - i else i
def colS (n : Nat) (F : Nat → Int32) (f : Nat → Nat → Nat → Int32) (p : Nat) (s : CS2) : CS2 := itN (fun k s => cyS F f (rtC n p - k % 2) (ycO n p (k / 2)) s) s (2 * n)
def allC (n : Nat) (F : Nat → Int32) (f : Nat → Nat → Nat → Int32) (s : CS2) : CS2 := itN (fun p s => colS n F f p s) s ((n - 1) / 2)
theorem col_two {n p : Nat} {F : Nat → Int32} {f : Nat → Nat → Nat → Int32} {s : CS2} : colS n F f p s = itN (fun i s => cyS F f (rtC n p - 1) (ycO n p i) (cyS F f (rtC n p) (ycO n p i) s)) s n := by
  unfold colS
  rw [itN_two]
  congr 1
  funext i s
  have a : (2 * i + 1) % 2 = 1 := by omega
  have b : (2 * i) % 2 = 0 := by omega
  have c : (2 * i + 1) / 2 = i := by omega
  have d : 2 * i / 2 = i := by omega
  rw [a, b, c, d, Nat.sub_zero]
theorem cy_b {n p i : Nat} (hn : 21 ≤ n ∧ n % 2 = 1) (hp : p < (n - 1) / 2) (hi : i < n) : 1 ≤ rtC n p ∧ rtC n p < n ∧ ycO n p i < n := by
  unfold rtC ycO
  refine ⟨?_, ?_, ?_⟩
  · split <;> omega
  · split <;> omega
  · split <;> omega
/-- no more bits than modules -/
theorem all_cnt {n : Nat} {F : Nat → Int32} {f : Nat → Nat → Nat → Int32} {s : CS2} {k : Nat} (hs : s.2 = 0) (hk : k ≤ (n - 1) / 2) : (itN (fun p s => colS n F f p s) s k).2 ≤ 2 * n * k := by
  have stp : ∀ (x y : Nat) (a : CS2), (cyS F f x y a).2 ≤ a.2 + 1 := fun x y a => by
    unfold cyS
    split
    · exact Nat.le_refl _
    · exact Nat.le_succ _
  refine itN_inv (R := fun k (a : CS2) => a.2 ≤ 2 * n * k) (f := fun p s => colS n F f p s) (s := s) (by rw [hs]; exact Nat.zero_le _) k (fun p a _ q => ?_)
  have inner := itN_inv (R := fun j (b : CS2) => b.2 ≤ a.2 + j) (f := fun k s => cyS F f (rtC n p - k % 2) (ycO n p (k / 2)) s) (s := a) (Nat.le_refl _) (2 * n) (fun j b _ q2 => by
    have := stp (rtC n p - j % 2) (ycO n p (j / 2)) b
    omega)
  replace inner : (colS n F f p a).2 ≤ a.2 + 2 * n := inner
  have q' : a.2 ≤ 2 * n * p := q
  show (colS n F f p a).2 ≤ 2 * n * (p + 1)
  rw [Nat.mul_succ]
  omega
/-- bit c of the codewords B, W of them -/
def bitC (B : Nat → Nat) (W c : Nat) : Bool := decide (c < 8 * W) && (B (c / 8)).testBit (7 - c % 8)
def bI (b : Bool) : Int32 := if b = true then 1 else 0
theorem bi_s : ∀ b : Bool, vp_nar .byte ((Int32.toInt8 ((if bI b = 0 then 0 else 1) : Int32)).toInt32) = bI b := by decide +kernel
theorem s_bitAt {M : im_M} {W c : Nat} {B : Nat → Nat} (h : im_i M 43 13 = nI W) (hW : W ≤ 3706) (hB : ∀ k, k < W → B k < 256 ∧ im_i M 44 k &&& 255 = nI (B k)) (hc : c ≤ 100000) : f_HBlocks_bitAt (nI c) M = some (bI (bitC B W c)) := by
  unfold f_HBlocks_bitAt bitC
  have e8 : (8 : Int32) * nI W = nI (8 * W) := nI_m 8
  have d8 : nI c / 8 = nI (c / 8) := nI_div (b := 8) (by omega) (by omega) (by omega)
  have r8 : nI c - nI (c / 8) * 8 = nI (c % 8) := by rw [← d8]; exact nI_rem (b := 8) (by omega) (by omega) (by omega)
  have s7 : (7 : Int32) - nI (c % 8) = iZ ((7 - c % 8 : Nat) : Int) := by rw [show (7 : Int32) = nI 7 from rfl, nI_sb (by omega), iZ_nI]
  rw [h, e8, d8, r8, s7, if_nIl (by omega) (by omega)]
  by_cases z : 8 * W ≤ c
  · rw [if_pos z, decide_eq_false (by omega), Bool.false_and]
    rfl
  · obtain ⟨b1, b2⟩ := hB (c / 8) (by omega)
    have ibv : ib (im_i M 44 (c / 8)) (7 - c % 8) = (B (c / 8)).testBit (7 - c % 8) := by
      have t := congrArg (fun v => ib v (7 - c % 8)) b2
      replace t : ib (im_i M 44 (c / 8) &&& 255) (7 - c % 8) = ib (nI (B (c / 8))) (7 - c % 8) := t
      have e255 : ib 255 (7 - c % 8) = true := (show ∀ k : Fin 8, ib 255 k.val = true by decide +kernel) ⟨7 - c % 8, by omega⟩
      rw [ib_and, e255, Bool.and_true, ib_nI (by omega)] at t
      exact t
    rw [if_neg z, gd_pos (by rw [inb_nI (by omega)]; omega), nI_clamp (by omega), decide_eq_true (by omega), Bool.true_and]
    simp only [and1_0 (show 7 - c % 8 < 32 by omega), ibv]
    cases (B (c / 8)).testBit (7 - c % 8) with
    | false => rfl
    | true => rfl
def CCg (M0 M : im_M) (n W : Nat) (B : Nat → Nat) (F : Nat → Int32) (G : Nat → Int32) : Prop := im_i M 38 1 = nI n ∧ im_i M 55 = F ∧ im_i M 43 13 = nI W ∧ (∀ k, k < W → B k < 256 ∧ im_i M 44 k &&& 255 = nI (B k)) ∧ im_i M 54 = G ∧ fr (2 ^ 54) [] M0 M
theorem s_carryBit {M0 M : im_M} {n W x y : Nat} {B : Nat → Nat} {F : Nat → Int32} {s : CS2} (h : CCg M0 M n W B F s.1) (hn : n ≤ 177) (hW : W ≤ 3706) (hx : x < n) (hy : y < n) (hc : s.2 ≤ 100000) : ed (f_HGrid_carryBit 1 (nI s.2) (nI x) (nI y) M) (fun r => r.1 = nI (cyS F (fun c _ _ => bI (bitC B W c)) x y s).2 ∧ CCg M0 r.2 n W B F (cyS F (fun c _ _ => bI (bitC B W c)) x y s).1) := by
  obtain ⟨h1, h2, h3, h4, h5, h6⟩ := h
  unfold f_HGrid_carryBit cyS
  have e : nI y * 177 + nI x = nI (177 * y + x) := by rw [show (177 : Int32) = nI 177 from rfl, nI_mul, nI_add, Nat.mul_comm]
  rw [e, gd_pos (by rw [inb_nI (by omega)]; omega), nI_clamp (by omega), h2]
  by_cases z : F (177 * y + x) = 0
  · rw [if_pos z, if_pos z, if_neg (by decide), s_bitAt h3 hW h4 hc, bd1_s]
    unfold f_HGrid_set
    rw [e, gd_pos (by rw [inb_nI (by omega)]; omega), nI_clamp (by omega), bi_s, bd1_s, bd1_s]
    refine ed_mk ⟨nI_add s.2 1, ?_, ?_, ?_, fun k hk => ⟨(h4 k hk).1, ?_⟩, ?_, fr_I (by decide) h6⟩
    · rw [sk1 (by omega)]; exact h1
    · rw [up_o (by decide)]; exact h2
    · rw [sk1 (by omega)]; exact h3
    · rw [sk1 (by omega)]; exact (h4 k hk).2
    · rw [up_I, h5]
  · rw [if_neg z, if_neg z]
    exact ed_mk ⟨rfl, h1, h2, h3, h4, h5, h6⟩
theorem s_carryC {M0 M : im_M} {n W : Nat} {B : Nat → Nat} {F G : Nat → Int32} (h : CCg M0 M n W B F G) (hn : 21 ≤ n ∧ n ≤ 177 ∧ n % 2 = 1) (hW : W ≤ 3706) : ed (f_HGrid_carry 1 M) (fun R => CCg M0 R n W B F (allC n F (fun c _ _ => bI (bitC B W c)) (G, 0)).1) := by
  unfold f_HGrid_carry
  apply bd1_mk
  refine ed_mono (lp_for (S := CS2) (fun p s (t : Int32 × Int32 × im_M) => t.1 = nI s.2 ∧ t.2.1 = nI p ∧ CCg M0 t.2.2 n W B F s.1 ∧ s.2 ≤ 2 * n * p) (Q := fun s R => CCg M0 R n W B F s.1) ((n - 1) / 2) (fun p s => colS n F (fun c _ _ => bI (bitC B W c)) p s) ?_ ?_ (s := (G, 0)) ⟨rfl, rfl, h, Nat.zero_le _⟩) (fun R h => ed_mk h)
  · rintro p s ⟨x3, x4, M5⟩ hp ⟨e1, e2, h5, c5⟩
    replace e1 : x3 = nI s.2 := e1
    replace e2 : x4 = nI p := e2
    replace h5 : CCg M0 M5 n W B F s.1 := h5
    subst e1 e2
    show ed (f_HGrid_carry_L4 1 (nI s.2) (nI p) M5) _
    unfold f_HGrid_carry_L4
    have pn : 2 * n * p ≤ 2 * n * 88 := Nat.mul_le_mul_left _ (by omega)
    have d2 : nI (n - 1) / 2 = nI ((n - 1) / 2) := nI_div (b := 2) (by omega) (by omega) (by omega)
    have e2 : (2 : Int32) * nI p = nI (2 * p) := nI_m 2
    have sb : nI (n - 1) - nI (2 * p) = nI (n - 1 - 2 * p) := nI_sb (by omega)
    have k6 : ((6 : Int32) < nI (n - 1 - 2 * p)) = (6 < n - 1 - 2 * p) := nIlt (x := 6) (by omega) (by omega)
    have ep : nI (n - 1 - 2 * p) + (-1) = nI (n - 1 - 2 * p - 1) := by
      have := nI_m1 (n := n - 1 - 2 * p) (by omega)
      rw [← this, Int32.sub_eq_add_neg]
    have er : ((if 6 < n - 1 - 2 * p then nI (n - 1 - 2 * p) else nI (n - 1 - 2 * p - 1)) : Int32) = nI (rtC n p) := by
      unfold rtC
      split <;> rfl
    rw [h5.1, nI_m1 (by omega), d2, if_nIl (by omega) (by omega), if_neg (by omega), e2, sb, ep]
    simp only [k6]
    rw [er]
    apply bd2_mk
    refine ed_mono (lp_for (S := CS2) (fun i a (t : Int32 × Int32 × im_M) => t.1 = nI a.2 ∧ t.2.1 = nI i ∧ CCg M0 t.2.2 n W B F a.1 ∧ a.2 ≤ s.2 + 2 * i) (Q := fun a (r : Int32 × im_M) => r.1 = nI a.2 ∧ CCg M0 r.2 n W B F a.1 ∧ a.2 ≤ s.2 + 2 * n) n (fun i a => cyS F (fun c _ _ => bI (bitC B W c)) (rtC n p - 1) (ycO n p i) (cyS F (fun c _ _ => bI (bitC B W c)) (rtC n p) (ycO n p i) a)) ?_ ?_ (s := s) ⟨rfl, rfl, h5, Nat.le_refl _⟩) ?_
    · rintro i a ⟨x11, x12, M13⟩ hi ⟨e1, e2, h13, c13⟩
      replace e1 : x11 = nI a.2 := e1
      replace e2 : x12 = nI i := e2
      replace h13 : CCg M0 M13 n W B F a.1 := h13
      subst e1 e2
      show ed (f_HGrid_carry_L41 1 (nI p) (nI (rtC n p)) (nI a.2) (nI i) M13) _
      unfold f_HGrid_carry_L41
      obtain ⟨b1, b2, b3⟩ := cy_b (n := n) (p := p) (i := i) ⟨by omega, hn.2.2⟩ hp hi
      have k2 : (nI (p % 2) = 0) = (p % 2 = 0) := nIe (c := 0) (by omega) (by omega)
      have ey : ((if ¬ (nI p - nI p / 2 * 2) = 0 then nI i else ((nI n - 1) - nI i)) : Int32) = nI (ycO n p i) := by
        rw [nI_odd (by omega), nI_m1 (by omega), nI_sb (by omega)]
        unfold ycO
        simp only [k2]
        by_cases y : p % 2 = 0
        · rw [if_neg (fun w => w y), if_pos y]
        · rw [if_pos y, if_neg y]
      have stp : ∀ (x y : Nat) (a : CS2), (cyS F (fun c _ _ => bI (bitC B W c)) x y a).2 ≤ a.2 + 1 := fun x y a => by
        unfold cyS
        split
        · exact Nat.le_refl _
        · exact Nat.le_succ _
      rw [h13.1, if_nIl (by omega) (by omega), if_neg (by omega), ey]
      apply bd2_mk
      refine ed_mono (s_carryBit h13 hn.2.1 hW b2 b3 (by omega)) ?_
      rintro ⟨x15, M15⟩ ⟨r1, r2⟩
      replace r1 : x15 = nI (cyS F (fun c _ _ => bI (bitC B W c)) (rtC n p) (ycO n p i) a).2 := r1
      subst r1
      have q1 := stp (rtC n p) (ycO n p i) a
      generalize cyS F (fun c _ _ => bI (bitC B W c)) (rtC n p) (ycO n p i) a = a1 at r2 q1 ⊢
      rw [nI_m1 b1]
      apply bd2_mk
      refine ed_mono (s_carryBit r2 hn.2.1 hW (by omega) b3 (by omega)) ?_
      rintro ⟨x16, M16⟩ ⟨r3, r4⟩
      have q2 := stp (rtC n p - 1) (ycO n p i) a1
      exact ed_mk ⟨_, rfl, r3, nI_add i 1, r4, by omega⟩
    · rintro a ⟨x11, x12, M13⟩ ⟨e1, e2, h13, c13⟩
      replace e1 : x11 = nI a.2 := e1
      replace e2 : x12 = nI n := e2
      replace h13 : CCg M0 M13 n W B F a.1 := h13
      subst e1 e2
      show ed (f_HGrid_carry_L41 1 (nI p) (nI (rtC n p)) (nI a.2) (nI n) M13) _
      unfold f_HGrid_carry_L41
      rw [h13.1, if_pos (by rw [nIl (by omega) (by omega)]; omega)]
      exact ed_mk ⟨_, rfl, rfl, h13, c13⟩
    · rintro ⟨y17, M18⟩ ⟨r1, r2, r3⟩
      rw [← col_two] at r1 r2 r3
      replace r1 : y17 = nI (colS n F (fun c _ _ => bI (bitC B W c)) p s).2 := r1
      refine ed_mk ⟨_, rfl, r1, nI_add p 1, r2, ?_⟩
      rw [Nat.mul_succ]
      omega
  · rintro s ⟨x3, x4, M5⟩ ⟨e1, e2, h5, c5⟩
    replace e2 : x4 = nI ((n - 1) / 2) := e2
    replace h5 : CCg M0 M5 n W B F s.1 := h5
    subst e2
    show ed (f_HGrid_carry_L4 1 x3 (nI ((n - 1) / 2)) M5) _
    unfold f_HGrid_carry_L4
    have d2 : nI (n - 1) / 2 = nI ((n - 1) / 2) := nI_div (b := 2) (by omega) (by omega) (by omega)
    rw [h5.1, nI_m1 (by omega), d2, if_pos (by rw [nIl (by omega) (by omega)]; omega)]
    exact ed_mk ⟨_, rfl, h5⟩
