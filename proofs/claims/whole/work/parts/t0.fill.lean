/-! MODULES OUT OF DOTS, BY BOTH -/
def bxD (D : Nat → Nat → Bool) (x0 y0 : Nat) : Nat → Nat → Bool := fun a b => D (x0 + a) (y0 + b)
def bXq (q n x y : Nat) : Nat := if q = 0 then x else if q = 1 then n - 1 - y else if q = 2 then n - 1 - x else y
def bYq (q n x y : Nat) : Nat := if q = 0 then y else if q = 1 then x else if q = 2 then n - 1 - y else n - 1 - x
def gQ (D : Nat → Nat → Bool) (X Y m q n x y : Nat) : Bool := decide (m * m < 2 * allB (bxD D (X + m * bXq q n x y) (Y + m * bYq q n x y)) m m)
theorem bq_lt {q n x y : Nat} (hx : x < n) (hy : y < n) : bXq q n x y < n ∧ bYq q n x y < n := by
  unfold bXq bYq
  constructor
  · split
    · exact hx
    · split
      · omega
      · split <;> omega
  · split
    · exact hy
    · split
      · omega
      · split <;> omega
theorem bq_m {m b n X W : Nat} (hb : b < n) (h : X + m * n ≤ W) : X + m * b + m ≤ W := by
  have := Nat.mul_le_mul_left m (show b + 1 ≤ n by omega)
  rw [Nat.mul_succ] at this
  omega
theorem mk_b : ∀ (m : Fin 17) (b : Fin 64), lb (((1 : Int64) <<< (Int32.toInt64 (nI m.val) &&& 63) : Int64) - 1) b.val = decide (b.val < m.val) := by decide +kernel
theorem all_m {B : Nat → Nat → Bool} {m : Nat} (hm : m ≤ 16) : ∀ n, allB B m n ≤ 16 * n := by
  intro n
  induction n with
  | zero => exact Nat.le_refl _
  | succ n ih =>
    have := rowB_le (B := B) (y := n) m
    show allB B m n + rowB B n m ≤ 16 * (n + 1)
    omega
/-! the class -/
theorem s_darkNow {w : Bool} {M : im_M} {W H x0 y0 m : Nat} {D : Nat → Nat → Bool} (q : DH w M W H D) (hm : m ≤ 16) (hx : x0 ≤ 512) (hy : y0 ≤ 512) : f_HFinder_darkNow w (nI x0) (nI y0) (nI m) M = some (nI (allB (bxD D x0 y0) m m)) := by
  unfold f_HFinder_darkNow
  have key : ed (lp (uc2 (f_HFinder_darkNow_L6 w (nI x0) (nI y0) (nI m) M)) (0, nI y0)) (fun r => r = nI (allB (bxD D x0 y0) m m)) := by
    refine lp_inv (fun k (s : Int32 × Int32) => ∃ i : Nat, i + k = m ∧ s.1 = nI (allB (bxD D x0 y0) m i) ∧ s.2 = nI (y0 + i)) ?_ (k := m) ⟨0, by omega, rfl, rfl⟩
    rintro k ⟨x5, x6⟩ ⟨i, hi, e1, e2⟩
    replace e1 : x5 = nI (allB (bxD D x0 y0) m i) := e1
    replace e2 : x6 = nI (y0 + i) := e2
    subst e1 e2
    show ed (f_HFinder_darkNow_L6 w (nI x0) (nI y0) (nI m) M (nI (allB (bxD D x0 y0) m i)) (nI (y0 + i))) _
    unfold f_HFinder_darkNow_L6
    rw [nI_add, if_nIl (by omega) (by omega)]
    by_cases c : y0 + m ≤ y0 + i
    · rw [if_pos c]
      obtain rfl : i = m := by omega
      exact lpo_r rfl
    · rw [if_neg c]
      have wf := s_wordFrom q (x := (x0 : Int)) (y := ((y0 + i : Nat) : Int)) (by omega) (by omega)
      rw [← iZ_nI, ← iZ_nI] at wf
      obtain ⟨v, ev, hv⟩ := wf
      have rw1 : pcs 8 (un (v &&& (((1 : Int64) <<< (Int32.toInt64 (nI m) &&& 63) : Int64) - 1))) = rowB (bxD D x0 y0) i m := by
        have wr := word_row (v := v &&& (((1 : Int64) <<< (Int32.toInt64 (nI m) &&& 63) : Int64) - 1)) (B := fun a b => decide (a < m) && D (x0 + a) b) (y := y0 + i) (m := 0) (fun b hb => by
          rw [lb_and, hv b hb, mk_b ⟨m, by omega⟩ ⟨b, hb⟩, show (x0 : Int) + (b : Int) = ((x0 + b : Nat) : Int) from rfl, Dz_nn, Bool.and_comm, Nat.zero_add])
        rw [wr]
        have fr1 := rowB_far (B := fun a b => decide (0 + a < m) && D (x0 + (0 + a)) b) (y := y0 + i) (W := m) (fun x hx => by
          show (decide (0 + x < m) && D (x0 + (0 + x)) (y0 + i)) = false
          rw [decide_eq_false (by omega), Bool.false_and]) (64 - m)
        rw [show m + (64 - m) = 64 by omega] at fr1
        have fr2 : rowB (fun a b => (fun a b => decide (a < m) && D (x0 + a) b) (0 + a) b) (y0 + i) 64 = rowB (fun a b => decide (0 + a < m) && D (x0 + (0 + a)) b) (y0 + i) 64 := rfl
        rw [fr2, fr1]
        have rc : ∀ n, n ≤ m → rowB (fun a b => decide (0 + a < m) && D (x0 + (0 + a)) b) (y0 + i) n = rowB (bxD D x0 y0) i n := by
          intro n
          induction n with
          | zero => intro _; rfl
          | succ n ih =>
            intro hn
            show rowB _ (y0 + i) n + (if (decide (0 + n < m) && D (x0 + (0 + n)) (y0 + i)) = true then 1 else 0) = rowB (bxD D x0 y0) i n + (if D (x0 + n) (y0 + i) = true then 1 else 0)
            rw [ih (by omega), decide_eq_true (show 0 + n < m by omega), Bool.true_and, Nat.zero_add]
        exact rc m (Nat.le_refl _)
      rw [ev, bd1_s, bit_n.1, bd1_s, rw1, nI_add]
      exact lpo_l (k - 1) (by omega) ⟨i + 1, by omega, rfl, nI_add (y0 + i) 1⟩
  obtain ⟨r, e, rfl⟩ := key
  rw [e]
  rfl
theorem bq_c {q n x y : Nat} (hq : q < 4) (hx : x < n) (hy : y < n) (hn : n ≤ 177) : ((if ¬ nI q = 0 then (if ¬ nI q = 1 then (if ¬ nI q = 2 then nI y else (nI (n - 1) - nI x)) else (nI (n - 1) - nI y)) else nI x) : Int32) = nI (bXq q n x y) ∧ ((if ¬ nI q = 0 then (if ¬ nI q = 1 then (if ¬ nI q = 2 then (nI (n - 1) - nI x) else (nI (n - 1) - nI y)) else nI x) else nI y) : Int32) = nI (bYq q n x y) := by
  rw [nI_sb (by omega), nI_sb (by omega)]
  have c : q = 0 ∨ q = 1 ∨ q = 2 ∨ q = 3 := by omega
  rcases c with rfl | rfl | rfl | rfl <;> exact ⟨rfl, rfl⟩
theorem s_fillC {w : Bool} {M : im_M} {W H k X Y m v q e : Nat} {D : Nat → Nat → Bool} (dh : DH w M W H D) (hk : k < 300) (hm : 1 ≤ m ∧ m ≤ 16) (hv : 1 ≤ v ∧ v ≤ 40) (hq : q < 4) (hX : X + m * (17 + 4 * v) ≤ W) (hY : Y + m * (17 + 4 * v) ≤ H) (e62 : im_l M 62 k = pkey X Y m v q) (e63 : im_i M 63 k = nI e) (h1 : im_i M 38 1 = nI (17 + 4 * v)) : ed (f_HFinder_fill w (nI k) M) (fun R => (∀ x y, x < 17 + 4 * v → y < 17 + 4 * v → im_i R 54 (177 * y + x) = bI (gQ D X Y m q (17 + 4 * v) x y)) ∧ fr (2 ^ 54) [] M R) := by
  obtain ⟨n, en⟩ : ∃ n, n = 17 + 4 * v := ⟨_, rfl⟩
  rw [← en] at hX hY h1 ⊢
  have hW := dh.1
  have mn : n ≤ m * n := by
    have := Nat.mul_le_mul_right n hm.1
    omega
  have pt : ∀ N : im_M, fr (2 ^ 54) [] M N → f_HFinder_part (nI k) 0 N = some (nI X) ∧ f_HFinder_part (nI k) 1 N = some (nI Y) ∧ f_HFinder_part (nI k) 2 N = some (nI m) ∧ f_HFinder_part (nI k) 3 N = some (nI v) ∧ f_HFinder_part (nI k) 4 N = some (nI q) := fun N fN => by
    have := e_part (M := N) (k := k) (x := X) (y := Y) (m := m) (v := v) (q := q) (e := e) hk (by omega) (by omega) (by omega) (by omega) hq (by rw [fN.2 62 (by decide)]; exact e62) (by rw [fN.1 63 k (by decide) (by simp)]; exact e63)
    obtain ⟨a0, a1, a2, a3, a4, _⟩ := this
    exact ⟨a0, a1, a2, a3, a4⟩
  obtain ⟨_, _, p2, _, p4⟩ := pt M fr_refl
  unfold f_HFinder_fill
  rw [p2, bd1_s, p4, bd1_s, h1, nI_m1 (by omega)]
  apply bd1_mk
  refine ed_mono (lp_inv (fun f (s : Int32 × im_M) => ∃ y : Nat, y + f = n ∧ s.1 = nI y ∧ (∀ x j, x < n → j < y → im_i s.2 54 (177 * j + x) = bI (gQ D X Y m q n x j)) ∧ fr (2 ^ 54) [] M s.2) (Q := fun R => (∀ x y, x < n → y < n → im_i R 54 (177 * y + x) = bI (gQ D X Y m q n x y)) ∧ fr (2 ^ 54) [] M R) ?_ (k := n) ⟨0, by omega, rfl, fun x j _ hj => absurd hj (Nat.not_lt_zero _), fr_refl⟩) (fun R h => ed_mk h)
  rintro f ⟨x8, M9⟩ ⟨y, hy, e1, g9, f9⟩
  replace e1 : x8 = nI y := e1
  replace g9 : ∀ x j, x < n → j < y → im_i M9 54 (177 * j + x) = bI (gQ D X Y m q n x j) := g9
  replace f9 : fr (2 ^ 54) [] M M9 := f9
  subst e1
  show ed (f_HFinder_fill_L26 w (nI k) (nI m) (nI q) (nI (n - 1)) (nI y) M9) _
  unfold f_HFinder_fill_L26
  rw [if_nIlt (by omega) (by omega)]
  by_cases c : n - 1 < y
  · rw [if_pos c]
    exact lpo_r ⟨fun x j hx hj => g9 x j hx (by omega), f9⟩
  · rw [if_neg c]
    apply bd1_mk
    refine ed_mono (lp_inv (fun f (s : Int32 × im_M) => ∃ u : Nat, u + f = n ∧ s.1 = nI u ∧ (∀ x j, x < n → (j < y ∨ (j = y ∧ x < u)) → im_i s.2 54 (177 * j + x) = bI (gQ D X Y m q n x j)) ∧ fr (2 ^ 54) [] M s.2) (Q := fun R => (∀ x j, x < n → j < y + 1 → im_i R 54 (177 * j + x) = bI (gQ D X Y m q n x j)) ∧ fr (2 ^ 54) [] M R) ?_ (k := n) ⟨0, by omega, rfl, fun x j hx hj => g9 x j hx (by omega), f9⟩) ?_
    · rintro f ⟨x16, M17⟩ ⟨u, hu, e1, g17, f17⟩
      replace e1 : x16 = nI u := e1
      replace g17 : ∀ x j, x < n → (j < y ∨ (j = y ∧ x < u)) → im_i M17 54 (177 * j + x) = bI (gQ D X Y m q n x j) := g17
      replace f17 : fr (2 ^ 54) [] M M17 := f17
      subst e1
      show ed (f_HFinder_fill_L36 w (nI k) (nI m) (nI q) (nI (n - 1)) (nI y) (nI u) M17) _
      unfold f_HFinder_fill_L36
      rw [if_nIlt (by omega) (by omega)]
      by_cases d : n - 1 < u
      · rw [if_pos d]
        exact lpo_r ⟨fun x j hx hj => g17 x j hx (by omega), f17⟩
      · obtain ⟨p0, p1, _, _, _⟩ := pt M17 f17
        obtain ⟨b1, b2⟩ := bq_c hq (show u < n by omega) (show y < n by omega) (by omega)
        obtain ⟨l1, l2⟩ := bq_lt (q := q) (show u < n by omega) (show y < n by omega)
        have m1 := bq_m l1 hX
        have m2 := bq_m l2 hY
        have dn : f_HFinder_darkNow w (nI X + nI m * nI (bXq q n u y)) (nI Y + nI m * nI (bYq q n u y)) (nI m) M17 = some (nI (allB (bxD D (X + m * bXq q n u y) (Y + m * bYq q n u y)) m m)) := by
          rw [nI_mul, nI_mul, nI_add, nI_add]
          exact s_darkNow (DH_fr f17 (by decide +kernel) dh) hm.2 (by omega) (by omega)
        have al := all_m (B := bxD D (X + m * bXq q n u y) (Y + m * bYq q n u y)) hm.2 m
        have mm : m * m ≤ 256 := Nat.mul_le_mul hm.2 hm.2
        rw [if_neg d, p0, bd1_s, p1, bd1_s, b1, b2, dn, bd1_s]
        have e2 : (2 : Int32) * nI (allB (bxD D (X + m * bXq q n u y) (Y + m * bYq q n u y)) m m) = nI (2 * allB (bxD D (X + m * bXq q n u y) (Y + m * bYq q n u y)) m m) := nI_m 2
        rw [e2, nI_mul, if_nIl (by omega) (by omega)]
        have eb : ((if 2 * allB (bxD D (X + m * bXq q n u y) (Y + m * bYq q n u y)) m m ≤ m * m then 0 else 1) : Int32) = bI (gQ D X Y m q n u y) := by
          unfold gQ
          by_cases z : 2 * allB (bxD D (X + m * bXq q n u y) (Y + m * bYq q n u y)) m m ≤ m * m
          · rw [if_pos z, decide_eq_false (by omega)]; rfl
          · rw [if_neg z, decide_eq_true (by omega)]; rfl
        rw [eb]
        unfold f_HGrid_set
        have e7 : nI y * 177 + nI u = nI (177 * y + u) := by rw [show (177 : Int32) = nI 177 from rfl, nI_mul, nI_add, Nat.mul_comm]
        rw [e7, gd_pos (by rw [inb_nI (by omega)]; omega), nI_clamp (by omega), bi_s, bd1_s]
        refine lpo_l (f - 1) (by omega) ⟨u + 1, by omega, nI_add u 1, fun x j hx hj => ?_, fr_I (by decide) f17⟩
        show im_i (im_setI M17 54 (177 * y + u) _) 54 (177 * j + x) = _
        by_cases e : j = y ∧ x = u
        · rw [e.1, e.2, hit]
        · rw [sk1 (by omega)]
          exact g17 x j hx (by omega)
    · rintro R ⟨r1, r2⟩
      exact lpo_l (f - 1) (by omega) ⟨y + 1, by omega, nI_add y 1, r1, r2⟩
/-! the reference -/
theorem s_block {q n x y : Nat} {M : im_M} (hq : q < 4) (hx : x < n) (hy : y < n) (hn : n ≤ 177) : f_MPlaceRows_blockX (nI n) (nI x) (nI y) (nI q) M = some (nI (bXq q n x y)) ∧ f_MPlaceRows_blockY (nI n) (nI x) (nI y) (nI q) M = some (nI (bYq q n x y)) := by
  unfold f_MPlaceRows_blockX f_MPlaceRows_blockY
  rw [nI_m1 (by omega), nI_sb (by omega), nI_sb (by omega)]
  have c : q = 0 ∨ q = 1 ∨ q = 2 ∨ q = 3 := by omega
  rcases c with rfl | rfl | rfl | rfl <;> exact ⟨rfl, rfl⟩
theorem bo_n : ∀ b : Bool, vp_nar .boolean ((if b = true then 1 else 0) : Int32) = (if b = true then 1 else 0) := by decide +kernel
theorem s_differ {M : im_M} {W H x0 y0 m : Nat} {D : Nat → Nat → Bool} (q : PR M W H D) (hm : m ≤ 16) (hx : x0 + m ≤ W) (hy : y0 + m ≤ H) : ed (f_MPlaceRows_differ (nI x0) (nI y0) (nI m) 0 0 M) (fun r => r.1 = nI (allB (bxD D x0 y0) m m) ∧ PR r.2 W H D ∧ fr (2 ^ 131) [] M r.2) := by
  have hW := q.1
  unfold f_MPlaceRows_differ
  apply bd2_mk
  refine ed_mono (lp_inv (fun f (s : Int32 × Int32 × im_M) => ∃ i : Nat, i + f = m ∧ s.1 = nI (allB (bxD D x0 y0) m i) ∧ s.2.1 = nI (y0 + i) ∧ PR s.2.2 W H D ∧ fr (2 ^ 131) [] M s.2.2) (Q := fun (r : Int32 × im_M) => r.1 = nI (allB (bxD D x0 y0) m m) ∧ PR r.2 W H D ∧ fr (2 ^ 131) [] M r.2) ?_ (k := m) ⟨0, by omega, rfl, rfl, q, fr_refl⟩) (fun r h => ed_mk h)
  rintro f ⟨x7, x8, M9⟩ ⟨i, hi, e1, e2, q9, f9⟩
  replace e1 : x7 = nI (allB (bxD D x0 y0) m i) := e1
  replace e2 : x8 = nI (y0 + i) := e2
  replace q9 : PR M9 W H D := q9
  replace f9 : fr (2 ^ 131) [] M M9 := f9
  subst e1 e2
  show ed (f_MPlaceRows_differ_L6 (nI x0) (nI y0) (nI m) 0 0 (nI (allB (bxD D x0 y0) m i)) (nI (y0 + i)) M9) _
  unfold f_MPlaceRows_differ_L6
  rw [nI_add, if_nIl (by omega) (by omega)]
  by_cases c : y0 + m ≤ y0 + i
  · rw [if_pos c]
    obtain rfl : i = m := by omega
    exact lpo_r ⟨rfl, q9, f9⟩
  · rw [if_neg c]
    apply bd2_mk
    refine ed_mono (lp_inv (fun f (s : Int32 × Int32 × im_M) => ∃ j : Nat, j + f = m ∧ s.1 = nI (allB (bxD D x0 y0) m i + rowB (bxD D x0 y0) i j) ∧ s.2.1 = nI (x0 + j) ∧ PR s.2.2 W H D ∧ fr (2 ^ 131) [] M s.2.2) (Q := fun (r : Int32 × im_M) => r.1 = nI (allB (bxD D x0 y0) m (i + 1)) ∧ PR r.2 W H D ∧ fr (2 ^ 131) [] M r.2) ?_ (k := m) ⟨0, by omega, rfl, rfl, q9, f9⟩) ?_
    · rintro f ⟨x17, x18, M19⟩ ⟨j, hj, e1, e2, q19, f19⟩
      replace e1 : x17 = nI (allB (bxD D x0 y0) m i + rowB (bxD D x0 y0) i j) := e1
      replace e2 : x18 = nI (x0 + j) := e2
      replace q19 : PR M19 W H D := q19
      replace f19 : fr (2 ^ 131) [] M M19 := f19
      subst e1 e2
      show ed (f_MPlaceRows_differ_L17 (nI x0) (nI y0) (nI m) 0 0 (nI (y0 + i)) (nI (allB (bxD D x0 y0) m i + rowB (bxD D x0 y0) i j)) (nI (x0 + j)) M19) _
      unfold f_MPlaceRows_differ_L17
      rw [nI_add, if_nIl (by omega) (by omega)]
      by_cases d : x0 + m ≤ x0 + j
      · rw [if_pos d]
        obtain rfl : j = m := by omega
        exact lpo_r ⟨rfl, q19, f19⟩
      · have dk := s_isDk q19 (x := x0 + j) (y := y0 + i) (by omega) (by omega)
        have e5 : (512 : Int32) * nI (y0 + i) + nI (x0 + j) = nI (512 * (y0 + i) + (x0 + j)) := by rw [nI_m, nI_add]
        rw [if_neg d, dk, bd1_s, if_pos rfl, bd1_s, bd1_s, e5, gd_pos (by rw [inb_nI (by omega)]; omega), nI_clamp (by omega), bo_n]
        have ec : ((if ¬ (if D (x0 + j) (y0 + i) = true then (1 : Int32) else 0) = 0 then 1 else 0) : Int32) = nI (if D (x0 + j) (y0 + i) = true then 1 else 0) := by
          cases D (x0 + j) (y0 + i) <;> rfl
        rw [ec, nI_add]
        refine lpo_l (f - 1) (by omega) ⟨j + 1, by omega, ?_, nI_add (x0 + j) 1, ⟨hW, ⟨?_, ?_⟩, fun a b ha hb => ?_⟩, fr_I (by decide) f19⟩
        · show _ = nI (allB (bxD D x0 y0) m i + (rowB (bxD D x0 y0) i j + (if D (x0 + j) (y0 + i) = true then 1 else 0)))
          rw [Nat.add_assoc]
        · show im_i (im_setI M19 131 _ _) 130 1 = _
          rw [sk1 (by omega)]; exact q19.2.1.1
        · show im_i (im_setI M19 131 _ _) 130 2 = _
          rw [sk1 (by omega)]; exact q19.2.1.2
        · show im_i (im_setI M19 131 (512 * (y0 + i) + (x0 + j)) _) 131 (512 * b + a) = _
          by_cases e : b = y0 + i ∧ a = x0 + j
          · rw [e.1, e.2, hit]
          · rw [sk1 (by omega)]
            exact q19.2.2 a b ha hb
    · rintro ⟨y34, M35⟩ ⟨r1, r2, r3⟩
      replace r1 : y34 = nI (allB (bxD D x0 y0) m (i + 1)) := r1
      exact lpo_l (f - 1) (by omega) ⟨i + 1, by omega, r1, nI_add (y0 + i) 1, r2, r3⟩
theorem s_modules {M : im_M} {W H k N X Y m v q c y : Nat} {D : Nat → Nat → Bool} (p : PR M W H D) (hk : k < N) (hN : N ≤ 300) (h10 : im_i M 130 10 = nI N) (d0 : im_i M 135 (6 * k) = nI X) (d1 : im_i M 135 (6 * k + 1) = nI Y) (d2 : im_i M 135 (6 * k + 2) = nI m) (d3 : im_i M 135 (6 * k + 3) = nI v) (d4 : im_i M 135 (6 * k + 4) = nI q) (hm : 1 ≤ m ∧ m ≤ 16) (hv : 1 ≤ v ∧ v ≤ 40) (hq : q < 4) (hX : X + m * (17 + 4 * v) ≤ W) (hY : Y + m * (17 + 4 * v) ≤ H) (hc : c ≤ 192) (hy : y < 17 + 4 * v) : ed (f_MPlaceRows_modules (nI k) (nI c) (nI y) M) (fun r => (∀ b, b < 64 → lb r.1 b = (decide (c + b < 17 + 4 * v) && gQ D X Y m q (17 + 4 * v) (c + b) y)) ∧ PR r.2 W H D ∧ fr (2 ^ 131) [(130, 0)] M r.2) := by
  obtain ⟨n, en⟩ : ∃ n, n = 17 + 4 * v := ⟨_, rfl⟩
  have hW := p.1
  have e17 : (17 : Int32) + (4 : Int32) * nI v = nI n := by rw [nI_m, show (17 : Int32) = nI 17 from rfl, nI_add, en]
  rw [← en] at hX hY hy ⊢
  have a0 : (nI k < 0) = (k < 0) := nIlt (c := 0) (by omega) (by omega)
  have a1 : (nI k < nI N) = (k < N) := nIlt (by omega) (by omega)
  have tz : ((if nI k < 0 then 1 else (if nI k < im_i M 130 10 then 0 else 1)) : Int32) = 0 := by
    rw [h10]
    simp only [a0, a1]
    rw [if_neg (by omega), if_pos hk]
  have e6 : (6 : Int32) * nI k = nI (6 * k) := nI_m 6
  have e61 : nI (6 * k) + 1 = nI (6 * k + 1) := nI_add _ 1
  have e62 : nI (6 * k) + 2 = nI (6 * k + 2) := nI_add _ 2
  have e63 : nI (6 * k) + 3 = nI (6 * k + 3) := nI_add _ 3
  have e64 : nI (6 * k) + 4 = nI (6 * k + 4) := nI_add _ 4
  obtain ⟨M0, hM0⟩ : ∃ M0, M0 = im_setI M 130 0 0 := ⟨_, rfl⟩
  have f0 : fr (2 ^ 131) [(130, 0)] M M0 := by rw [hM0]; exact fr_F (by decide) fr_refl
  have p0 : PR M0 W H D := by
    rw [hM0]
    refine ⟨hW, ⟨?_, ?_⟩, fun a b ha hb => ?_⟩
    · rw [sk1 (by omega)]; exact p.2.1.1
    · rw [sk1 (by omega)]; exact p.2.1.2
    · rw [sk1 (by omega)]; exact p.2.2 a b ha hb
  have z0 : im_i M0 130 0 ≤ 0 := by rw [hM0, hit]; decide
  have c135 : ∀ (R : im_M) (j : Nat), fr (2 ^ 131) [(130, 0)] M R → im_i R 135 j = im_i M 135 j := fun R j fR => fR.1 135 j (by decide) (by simp)
  unfold f_MPlaceRows_modules
  rw [tz, ← hM0, if_pos z0, e6, e62, e63, e64, gd_pos (by rw [inb_nI (by omega)]; omega), gd_pos (by rw [inb_nI (by omega)]; omega), nI_clamp (by omega), nI_clamp (by omega), nI_clamp (by omega), c135 M0 _ f0, c135 M0 _ f0, c135 M0 _ f0, d2, d3, d4]
  unfold f_MPlaceRows_side
  rw [bd1_s, e17, gd_pos (by rw [inb_nI (by omega)]; omega)]
  apply bd2_mk
  refine ed_mono (lp_inv (fun f (s : Int64 × Int32 × im_M) => ∃ b : Nat, b + f = 64 ∧ (∀ j, j < 64 → lb s.1 j = (decide (j < b) && (decide (c + j < n) && gQ D X Y m q n (c + j) y))) ∧ s.2.1 = nI b ∧ PR s.2.2 W H D ∧ fr (2 ^ 131) [(130, 0)] M s.2.2) (Q := fun (r : Int64 × im_M) => (∀ b, b < 64 → lb r.1 b = (decide (c + b < n) && gQ D X Y m q n (c + b) y)) ∧ PR r.2 W H D ∧ fr (2 ^ 131) [(130, 0)] M r.2) ?_ (k := 64) ⟨0, by omega, fun j hj => by rw [decide_eq_false (Nat.not_lt_zero _), Bool.false_and]; exact lb_0, rfl, p0, f0⟩) (fun r h => ed_mk h)
  rintro f ⟨x10, x11, M12⟩ ⟨b, hb, l10, e1, p12, f12⟩
  replace l10 : ∀ j, j < 64 → lb x10 j = (decide (j < b) && (decide (c + j < n) && gQ D X Y m q n (c + j) y)) := l10
  replace e1 : x11 = nI b := e1
  replace p12 : PR M12 W H D := p12
  replace f12 : fr (2 ^ 131) [(130, 0)] M M12 := f12
  subst e1
  show ed (f_MPlaceRows_modules_L78 (nI k) (nI c) (nI y) (nI m) (nI n) (nI q) x10 (nI b) M12) _
  unfold f_MPlaceRows_modules_L78
  have k64 : ((64 : Int32) ≤ nI b) = (64 ≤ b) := nIl (x := 64) (by omega) (by omega)
  simp only [k64]
  by_cases z : 64 ≤ b
  · rw [if_pos z]
    refine lpo_r ⟨fun j hj => ?_, p12, f12⟩
    show lb x10 j = _
    rw [l10 j hj, decide_eq_true (by omega), Bool.true_and]
  · rw [if_neg z]
    have es : Int32.toInt64 (nI c) + Int32.toInt64 (nI b) = lZ ((c + b : Nat) : Int) := by
      rw [iZ_nI, iZ_nI, iZ_l (by omega), iZ_l (by omega), lZ_add]
      rfl
    have g1 : (lg_cmp (lZ ((c + b : Nat) : Int)) 0 < 0) = (((c + b : Nat) : Int) < 0) := by rw [lc_lt]; exact lZ_lt (b := 0) (by omega) (by decide)
    have g2 : (0 ≤ lg_cmp (lZ ((c + b : Nat) : Int)) (Int32.toInt64 (nI n))) = ¬ (((c + b : Nat) : Int) < (n : Int)) := by rw [lc_ge, iZ_nI, iZ_l (by omega), lZ_lt (by omega) (by omega)]
    have g3 : (nI y < 0) = (y < 0) := nIlt (c := 0) (by omega) (by omega)
    have g4 : (nI n ≤ nI y) = (n ≤ y) := nIl (by omega) (by omega)
    have g5 : Int64.toInt32 (lZ ((c + b : Nat) : Int)) = nI (c + b) := by rw [lZ_i (by omega), iZ_nI]
    rw [es]
    simp only [g1, g2, g3, g4]
    rw [if_neg (by omega)]
    by_cases w : c + b < n
    · rw [if_neg (by omega), if_neg (by omega), if_neg (by omega), e6, e61, gd_pos (by rw [inb_nI (by omega)]; omega), g5]
      obtain ⟨k1, k2⟩ := s_block (M := M12) hq w hy (by omega)
      obtain ⟨l1, l2⟩ := bq_lt (q := q) w hy
      have m1 := bq_m l1 hX
      have m2 := bq_m l2 hY
      rw [k1, bd1_s, gd_pos (by rw [inb_nI (by omega)]; omega), k2, bd1_s, nI_clamp (by omega), nI_clamp (by omega), c135 M12 _ f12, c135 M12 _ f12, d0, d1, nI_mul, nI_mul, nI_add, nI_add]
      apply bd2_mk
      apply bd2_mk
      refine ed_mono (s_differ p12 hm.2 m1 m2) ?_
      rintro ⟨x16, M16⟩ ⟨r1, r2, r3⟩
      replace r1 : x16 = nI (allB (bxD D (X + m * bXq q n (c + b) y) (Y + m * bYq q n (c + b) y)) m m) := r1
      replace r2 : PR M16 W H D := r2
      replace r3 : fr (2 ^ 131) [] M12 M16 := r3
      subst r1
      have al := all_m (B := bxD D (X + m * bXq q n (c + b) y) (Y + m * bYq q n (c + b) y)) hm.2 m
      have mm : m * m ≤ 256 := Nat.mul_le_mul hm.2 hm.2
      refine ed_mk ?_
      have eg : gQ D X Y m q n (c + b) y = decide (m * m < 2 * allB (bxD D (X + m * bXq q n (c + b) y) (Y + m * bYq q n (c + b) y)) m m) := rfl
      have e2 : (2 : Int32) * nI (allB (bxD D (X + m * bXq q n (c + b) y) (Y + m * bYq q n (c + b) y)) m m) = nI (2 * allB (bxD D (X + m * bXq q n (c + b) y) (Y + m * bYq q n (c + b) y)) m m) := nI_m 2
      refine lpo_l (f - 1) (by omega) ⟨b + 1, by omega, fun j hj => ?_, nI_add b 1, r2, fr_tr (fr_mono (by decide) (by simp) r3) f12⟩
      show lb (x10 ||| (if (2 : Int32) * nI (allB (bxD D (X + m * bXq q n (c + b) y) (Y + m * bYq q n (c + b) y)) m m) ≤ nI m * nI m then 0 else ((1 : Int64) <<< (Int32.toInt64 (nI b) &&& 63) : Int64))) j = _
      rw [e2, nI_mul, if_nIl (by omega) (by omega), lb_or, l10 j hj]
      generalize allB (bxD D (X + m * bXq q n (c + b) y) (Y + m * bYq q n (c + b) y)) m m = A at *
      have eb : Int32.toInt64 (nI b) = lZ ((b : Nat) : Int) := by rw [iZ_nI, iZ_l (by omega)]
      by_cases t : j = b
      · subst t
        rw [decide_eq_false (Nat.lt_irrefl _), Bool.false_and, Bool.false_or, decide_eq_true (show j < j + 1 by omega), Bool.true_and, decide_eq_true w, Bool.true_and, eg]
        by_cases u : 2 * A ≤ m * m
        · rw [if_pos u, decide_eq_false (by omega)]
          exact lb_0
        · rw [if_neg u, decide_eq_true (by omega), eb, lb_one (by omega) (by omega), decide_eq_true rfl]
      · have t1 : decide (j < b + 1) = decide (j < b) := by
          by_cases u : j < b
          · rw [decide_eq_true u, decide_eq_true (by omega)]
          · rw [decide_eq_false u, decide_eq_false (by omega)]
        have t2 : lb (if 2 * A ≤ m * m then 0 else ((1 : Int64) <<< (Int32.toInt64 (nI b) &&& 63) : Int64)) j = false := by
          split
          · exact lb_0
          · rw [eb, lb_one (by omega) (by omega), decide_eq_false t]
        rw [t1, t2, Bool.or_false]
    · rw [if_pos (by omega), bd2_s]
      refine lpo_l (f - 1) (by omega) ⟨b + 1, by omega, fun j hj => ?_, nI_add b 1, p12, f12⟩
      show lb x10 j = _
      rw [l10 j hj]
      by_cases t : j = b
      · subst t
        rw [decide_eq_false w, Bool.false_and, Bool.and_false, Bool.and_false]
      · have t1 : decide (j < b + 1) = decide (j < b) := by
          by_cases u : j < b
          · rw [decide_eq_true u, decide_eq_true (by omega)]
          · rw [decide_eq_false u, decide_eq_false (by omega)]
        rw [t1]
theorem one_m : ∀ b : Bool, (1 : Int32) - bI b = bI (!b) := by decide +kernel
theorem s_spoilD {M : im_M} {n v c y : Nat} {V : Int64} {g : Nat → Bool} (h7 : im_i M 108 7 = nI v) (h8 : im_i M 108 8 = nI n) (hv : 1 ≤ v ∧ v ≤ 40) (hn : n ≤ 177) (hc : c ≤ 192) (hy : y < n) (hV : ∀ b, b < 64 → lb V b = (decide (c + b < n) && g b)) (hz : ∀ b, b < 64 → c + b < n → im_i M 112 (177 * y + (c + b)) = 0) : ed (f_MSquareRows_spoil (nI c) (nI y) V M) (fun r => (∀ b, b < 64 → c + b < n → im_i r.2 112 (177 * y + (c + b)) = bI (g b)) ∧ (∀ j, (∀ b, b < 64 → c + b < n → j ≠ 177 * y + (c + b)) → im_i r.2 112 j = im_i M 112 j) ∧ fr (2 ^ 112) [(108, 0)] M r.2) := by
  unfold f_MSquareRows_spoil
  apply bd2_mk
  refine ed_mono (lp_inv (fun f (s : Int32 × Int32 × im_M) => ∃ b : Nat, b + f = 64 ∧ s.2.1 = nI b ∧ (∀ j, j < 64 → c + j < n → im_i s.2.2 112 (177 * y + (c + j)) = if j < b then bI (g j) else 0) ∧ (∀ j, (∀ b, b < 64 → c + b < n → j ≠ 177 * y + (c + b)) → im_i s.2.2 112 j = im_i M 112 j) ∧ fr (2 ^ 112) [(108, 0)] M s.2.2) (Q := fun (r : Int32 × im_M) => (∀ b, b < 64 → c + b < n → im_i r.2 112 (177 * y + (c + b)) = bI (g b)) ∧ (∀ j, (∀ b, b < 64 → c + b < n → j ≠ 177 * y + (c + b)) → im_i r.2 112 j = im_i M 112 j) ∧ fr (2 ^ 112) [(108, 0)] M r.2) ?_ (k := 64) ⟨0, by omega, rfl, fun j hj hc2 => ?_, fun j hj => ?_, fr_F (by decide) fr_refl⟩) (fun r h => ed_mk h)
  · rintro f ⟨x5, x6, M7⟩ ⟨b, hb, e1, g7, o7, f7⟩
    replace e1 : x6 = nI b := e1
    replace g7 : ∀ j, j < 64 → c + j < n → im_i M7 112 (177 * y + (c + j)) = if j < b then bI (g j) else 0 := g7
    replace o7 : ∀ j, (∀ b, b < 64 → c + b < n → j ≠ 177 * y + (c + b)) → im_i M7 112 j = im_i M 112 j := o7
    replace f7 : fr (2 ^ 112) [(108, 0)] M M7 := f7
    subst e1
    show ed (f_MSquareRows_spoil_L11 (nI c) (nI y) V x5 (nI b) M7) _
    unfold f_MSquareRows_spoil_L11
    have k64 : ((64 : Int32) ≤ nI b) = (64 ≤ b) := nIl (x := 64) (by omega) (by omega)
    simp only [k64]
    by_cases z : 64 ≤ b
    · rw [if_pos z]
      refine lpo_r ⟨fun j hj hj2 => ?_, o7, f7⟩
      show im_i M7 112 _ = _
      rw [g7 j hj hj2, if_pos (by omega)]
    · rw [if_neg z]
      have es : Int32.toInt64 (nI c) + Int32.toInt64 (nI b) = lZ ((c + b : Nat) : Int) := by
        rw [iZ_nI, iZ_nI, iZ_l (by omega), iZ_l (by omega), lZ_add]
        rfl
      have g1 : (lg_cmp (lZ ((c + b : Nat) : Int)) 0 < 0) = (((c + b : Nat) : Int) < 0) := by rw [lc_lt]; exact lZ_lt (b := 0) (by omega) (by decide)
      have g2 : (0 ≤ lg_cmp (lZ ((c + b : Nat) : Int)) (Int32.toInt64 (nI n))) = ¬ (((c + b : Nat) : Int) < (n : Int)) := by rw [lc_ge, iZ_nI, iZ_l (by omega), lZ_lt (by omega) (by omega)]
      have g3 : (nI y < 0) = (y < 0) := nIlt (c := 0) (by omega) (by omega)
      have g4 : (nI n ≤ nI y) = (n ≤ y) := nIl (by omega) (by omega)
      have g5 : Int64.toInt32 (lZ ((c + b : Nat) : Int)) = nI (c + b) := by rw [lZ_i (by omega), iZ_nI]
      have g6 : (nI v ≤ 0) = (v ≤ 0) := nIl (c := 0) (by omega) (by omega)
      rw [es, f7.1 108 7 (by decide) (by decide), f7.1 108 8 (by decide) (by decide), h7, h8]
      simp only [g1, g2, g3, g4, g6, s_and1 (v := V) (show b < 64 by omega)]
      rw [if_neg (show ¬ v ≤ 0 by omega), if_neg (show ¬ y < 0 by omega), if_neg (show ¬ n ≤ y by omega), if_neg (show ¬ ((c + b : Nat) : Int) < 0 by omega)]
      have nx : ∀ (x : Int32) (R : im_M), fr (2 ^ 112) [(108, 0)] M R → (∀ j, (∀ b, b < 64 → c + b < n → j ≠ 177 * y + (c + b)) → im_i R 112 j = im_i M 112 j) → (∀ j, j < 64 → c + j < n → im_i R 112 (177 * y + (c + j)) = if j < b + 1 then bI (g j) else 0) → ed (some (Sum.inl (x, nI b + 1, R) : (Int32 × Int32 × im_M) ⊕ (Int32 × im_M))) (lpo (fun f (s : Int32 × Int32 × im_M) => ∃ b : Nat, b + f = 64 ∧ s.2.1 = nI b ∧ (∀ j, j < 64 → c + j < n → im_i s.2.2 112 (177 * y + (c + j)) = if j < b then bI (g j) else 0) ∧ (∀ j, (∀ b, b < 64 → c + b < n → j ≠ 177 * y + (c + b)) → im_i s.2.2 112 j = im_i M 112 j) ∧ fr (2 ^ 112) [(108, 0)] M s.2.2) (fun (r : Int32 × im_M) => (∀ b, b < 64 → c + b < n → im_i r.2 112 (177 * y + (c + b)) = bI (g b)) ∧ (∀ j, (∀ b, b < 64 → c + b < n → j ≠ 177 * y + (c + b)) → im_i r.2 112 j = im_i M 112 j) ∧ fr (2 ^ 112) [(108, 0)] M r.2) f) := fun x R fR oR gR => lpo_l (f - 1) (by omega) ⟨b + 1, by omega, nI_add b 1, gR, oR, fR⟩
      by_cases w : c + b < n
      · rw [if_neg (show ¬ ¬ ((c + b : Nat) : Int) < (n : Int) by omega), if_neg (show ¬ (1 : Int32) = 0 by decide)]
        have vb := hV b (by omega)
        rw [decide_eq_true w, Bool.true_and] at vb
        rw [vb]
        have old := g7 b (by omega) w
        rw [if_neg (Nat.lt_irrefl _)] at old
        cases t : g b with
        | false =>
          rw [if_pos (by decide), bd2_s]
          refine nx _ _ f7 o7 (fun j hj hj2 => ?_)
          rw [g7 j hj hj2]
          by_cases u : j = b
          · subst u
            rw [if_neg (Nat.lt_irrefl _), if_pos (by omega), t]
            rfl
          · by_cases u2 : j < b
            · rw [if_pos u2, if_pos (by omega)]
            · rw [if_neg u2, if_neg (by omega)]
        | true =>
          have e7 : nI (c + b) + (177 : Int32) * nI y = nI (177 * y + (c + b)) := by rw [nI_m, nI_add, Nat.add_comm]
          unfold f_MSquareRows_moduleAt
          rw [if_neg (fun u => u rfl), bd1_s, bd1_s, g5, e7, gd_pos (by rw [inb_nI (by omega)]; omega), gd_pos (by rw [inb_nI (by omega)]; omega), nI_clamp (by omega), old, bd2_s]
          refine nx _ _ (fr_I (by decide) f7) (fun j hj => ?_) (fun j hj hj2 => ?_)
          · rw [sk1 (fun u => hj b (by omega) w u.2)]
            exact o7 j hj
          · by_cases u : j = b
            · subst u
              rw [hit, if_pos (by omega), t]
              rfl
            · rw [sk1 (by omega), g7 j hj hj2]
              by_cases u2 : j < b
              · rw [if_pos u2, if_pos (by omega)]
              · rw [if_neg u2, if_neg (by omega)]
      · rw [if_pos (show ¬ ((c + b : Nat) : Int) < (n : Int) by omega), if_pos rfl, bd2_s]
        refine nx _ _ f7 o7 (fun j hj hj2 => ?_)
        rw [g7 j hj hj2]
        by_cases u2 : j < b
        · rw [if_pos u2, if_pos (by omega)]
        · rw [if_neg u2, if_neg (by omega)]
  · show im_i (im_setI M 108 0 0) 112 _ = _
    rw [sk1 (by omega), if_neg (Nat.not_lt_zero _)]
    exact hz j hj hc2
  · show im_i (im_setI M 108 0 0) 112 _ = _
    rw [sk1 (by omega)]
