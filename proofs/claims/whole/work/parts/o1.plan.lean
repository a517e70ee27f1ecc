/-! THE FEWEST BITS -/
/-- what is taken to the end by a mode m at a state s, if F is taken behind it -/
def v3S (g : Nat) (F : Nat → Nat) (s m : Nat) : Nat := csS g s m + F (nxS m s)
def lmS (g b : Nat) (F : Nat → Nat) (s : Nat) : Nat := if mayB 0 b = true ∧ v3S g F s 0 ≤ v3S g F s (if mayB 1 b = true ∧ v3S g F s 1 ≤ v3S g F s 2 then 1 else 2) then 0 else if mayB 1 b = true ∧ v3S g F s 1 ≤ v3S g F s 2 then 1 else 2
/-- the fewest bits of the last k bytes -/
def TK (t : Nat → Nat) (n g : Nat) : Nat → Nat → Nat
  | 0, _ => 0
  | k + 1, s => v3S g (TK t n g k) s (lmS g (t (n - 1 - k)) (TK t n g k) s)
theorem lm_lt {g b s : Nat} {F : Nat → Nat} : lmS g b F s < 3 := by
  unfold lmS
  by_cases a1 : mayB 1 b = true ∧ v3S g F s 1 ≤ v3S g F s 2
  · rw [if_pos a1]
    by_cases a0 : mayB 0 b = true ∧ v3S g F s 0 ≤ v3S g F s 1
    · rw [if_pos a0]; omega
    · rw [if_neg a0]; omega
  · rw [if_neg a1]
    by_cases a0 : mayB 0 b = true ∧ v3S g F s 0 ≤ v3S g F s 2
    · rw [if_pos a0]; omega
    · rw [if_neg a0]; omega
theorem lm_may {g b s : Nat} {F : Nat → Nat} : mayB (lmS g b F s) b = true := by
  unfold lmS
  by_cases a1 : mayB 1 b = true ∧ v3S g F s 1 ≤ v3S g F s 2
  · rw [if_pos a1]
    by_cases a0 : mayB 0 b = true ∧ v3S g F s 0 ≤ v3S g F s 1
    · rw [if_pos a0]; exact a0.1
    · rw [if_neg a0]; exact a1.1
  · rw [if_neg a1]
    by_cases a0 : mayB 0 b = true ∧ v3S g F s 0 ≤ v3S g F s 2
    · rw [if_pos a0]; exact a0.1
    · rw [if_neg a0]; rfl
/-- no mode takes less, and none before it as little -/
theorem lm_min {g b s m : Nat} {F : Nat → Nat} (hm : m < 3) (h : mayB m b = true) : v3S g F s (lmS g b F s) ≤ v3S g F s m ∧ (m < lmS g b F s → v3S g F s (lmS g b F s) < v3S g F s m) := by
  have c : m = 0 ∨ m = 1 ∨ m = 2 := by omega
  unfold lmS
  by_cases a1 : mayB 1 b = true ∧ v3S g F s 1 ≤ v3S g F s 2
  · rw [if_pos a1]
    by_cases a0 : mayB 0 b = true ∧ v3S g F s 0 ≤ v3S g F s 1
    · rw [if_pos a0]
      have := a0.2
      have := a1.2
      rcases c with rfl | rfl | rfl <;> omega
    · rw [if_neg a0]
      have := a1.2
      rcases c with rfl | rfl | rfl
      · have : ¬ v3S g F s 0 ≤ v3S g F s 1 := fun z => a0 ⟨h, z⟩
        omega
      · omega
      · omega
  · rw [if_neg a1]
    by_cases a0 : mayB 0 b = true ∧ v3S g F s 0 ≤ v3S g F s 2
    · rw [if_pos a0]
      have := a0.2
      rcases c with rfl | rfl | rfl
      · omega
      · have : ¬ v3S g F s 1 ≤ v3S g F s 2 := fun z => a1 ⟨h, z⟩
        omega
      · omega
    · rw [if_neg a0]
      rcases c with rfl | rfl | rfl
      · have : ¬ v3S g F s 0 ≤ v3S g F s 2 := fun z => a0 ⟨h, z⟩
        omega
      · have : ¬ v3S g F s 1 ≤ v3S g F s 2 := fun z => a1 ⟨h, z⟩
        omega
      · omega
theorem nx_6 {m s : Nat} (hm : m < 3) (hs : s < 7) : nxS m s < 6 := (tb_nx ⟨m, hm⟩ ⟨s, hs⟩).2
theorem cs_28 {g m s : Nat} (hg : g < 3) (hm : m < 3) (hs : s < 7) : 3 ≤ csS g s m ∧ csS g s m ≤ 28 := tb_cs ⟨g, hg⟩ ⟨m, hm⟩ ⟨s, hs⟩
theorem TK_b {t : Nat → Nat} {n g : Nat} (hg : g < 3) : ∀ k s, s < 7 → TK t n g k s ≤ 28 * k := by
  intro k
  induction k with
  | zero => intro s _; exact Nat.le_refl _
  | succ k ih =>
    intro s hs
    show v3S g (TK t n g k) s (lmS g (t (n - 1 - k)) (TK t n g k) s) ≤ _
    have l := lm_lt (g := g) (b := t (n - 1 - k)) (F := TK t n g k) (s := s)
    generalize lmS g (t (n - 1 - k)) (TK t n g k) s = m at l
    have a := (cs_28 hg l hs).2
    have b := ih (nxS m s) (by have := nx_6 l hs; omega)
    unfold v3S
    omega
/-- the state before byte i, and its mode -/
def stS (t : Nat → Nat) (n g : Nat) : Nat → Nat
  | 0 => 6
  | i + 1 => nxS (lmS g (t i) (TK t n g (n - 1 - i)) (stS t n g i)) (stS t n g i)
def mdS (t : Nat → Nat) (n g i : Nat) : Nat := lmS g (t i) (TK t n g (n - 1 - i)) (stS t n g i)
theorem st_lt {t : Nat → Nat} {n g : Nat} : ∀ i, stS t n g i < 7 := by
  intro i
  induction i with
  | zero => show 6 < 7; omega
  | succ i ih => have := nx_6 (lm_lt (g := g) (b := t i) (F := TK t n g (n - 1 - i)) (s := stS t n g i)) ih; show nxS _ _ < 7; omega
theorem md_lt {t : Nat → Nat} {n g i : Nat} : mdS t n g i < 3 := lm_lt
theorem md_may {t : Nat → Nat} {n g i : Nat} : mayB (mdS t n g i) (t i) = true := lm_may
theorem TK_s {t : Nat → Nat} {n g i s : Nat} (hi : i < n) : TK t n g (n - i) s = v3S g (TK t n g (n - 1 - i)) s (lmS g (t i) (TK t n g (n - 1 - i)) s) := by
  obtain ⟨k, hk⟩ : ∃ k, n - i = k + 1 := ⟨n - i - 1, by omega⟩
  have e1 : n - 1 - i = k := by omega
  have e2 : n - 1 - k = i := by omega
  rw [hk, e1]
  show v3S g (TK t n g k) s (lmS g (t (n - 1 - k)) (TK t n g k) s) = _
  rw [e2]
/-- by the class: row i of its array -/
def TA (M : im_M) (t : Nat → Nat) (n g k : Nat) : Prop := ∀ i s, k ≤ i → i ≤ n → s < 7 → im_i M 41 (7 * i + s) = nI (TK t n g (n - i) s)
theorem s_bitsBy {M : im_M} {t : Nat → Nat} {n g i s m : Nat} (h : TA M t n g (i + 1)) (hn : n ≤ 200) (hg : g < 3) (hi : i < n) (hs : s < 7) (hm : m < 3) : f_HSegments_bitsBy (nI i) (nI s) (nI m) (nI g) M = some (nI (v3S g (TK t n g (n - 1 - i)) s m)) := by
  obtain ⟨a1, a2⟩ := tb_nx ⟨m, hm⟩ ⟨s, hs⟩
  replace a1 : xa_7 (nI (7 * m + s)) = nI (nxS m s) := a1
  replace a2 : nxS m s < 6 := a2
  have a3 : xa_8 (nI s) = nI m ↔ moS s = m := tb_mo ⟨m, hm⟩ ⟨s, hs⟩
  have a4 : xa_9 (nI (3 * g + m)) = nI (cbS g m) := (tb_cb ⟨g, hg⟩ ⟨m, hm⟩).1
  have a5 : xa_10 (nI (nxS m s)) = nI ([3, 4, 3, 5, 6, 8, 0].getD (nxS m s) 0) := tb_bt ⟨nxS m s, by omega⟩
  have e1 : (7 : Int32) * nI m + nI s = nI (7 * m + s) := by rw [nI_m, nI_add]
  have e2 : (3 : Int32) * nI g + nI m = nI (3 * g + m) := by rw [nI_m, nI_add]
  have e3 : (7 : Int32) * (nI i + 1) + nI (nxS m s) = nI (7 * (i + 1) + nxS m s) := by rw [show nI i + 1 = nI (i + 1) from nI_add i 1, nI_m, nI_add]
  have q := h (i + 1) (nxS m s) (Nat.le_refl _) (by omega) (by omega)
  rw [show n - (i + 1) = n - 1 - i by omega] at q
  unfold f_HSegments_bitsBy
  rw [e1, gd_pos (by rw [inb_nI (by omega)]; omega), gd_pos (by rw [inb_nI (by omega)]; omega), a1]
  have hd : (if ¬ xa_8 (nI s) = nI m then gd (inb ((3 : Int32) * nI g + nI m) 9) <| some ((4 : Int32) + xa_9 ((3 : Int32) * nI g + nI m)) else some 0) = some (nI (if moS s = m then 0 else 4 + cbS g m)) := by
    by_cases c : moS s = m
    · rw [if_neg (fun z => z (a3.mpr c)), if_pos c]
      rfl
    · rw [if_pos (fun z => c (a3.mp z)), if_neg c, e2, gd_pos (by rw [inb_nI (by omega)]; omega), a4, show (4 : Int32) = nI 4 from rfl, nI_add]
  rw [hd, bd1_s, gd_pos (by rw [inb_nI (by omega)]; omega), e3, gd_pos (by rw [inb_nI (by omega)]; omega), nI_clamp (by omega), q, a5, nI_add, nI_add]
  rfl
theorem v3_b {t : Nat → Nat} {n g k s m : Nat} (hg : g < 3) (hs : s < 7) (hm : m < 3) (hk : k ≤ 200) : v3S g (TK t n g k) s m ≤ 6000 := by
  have a := (cs_28 hg hm hs).2
  have b := TK_b (t := t) (n := n) hg k (nxS m s) (by have := nx_6 hm hs; omega)
  unfold v3S
  omega
theorem s_leastMode {M : im_M} {t : Nat → Nat} {n g i s : Nat} (h : TA M t n g (i + 1)) (hn : n ≤ 200) (hg : g < 3) (hi : i < n) (hs : s < 7) (hb : t i < 256) : f_HSegments_leastMode (nI i) (nI s) (nI (t i)) (nI g) M = some (nI (lmS g (t i) (TK t n g (n - 1 - i)) s)) := by
  have stp : ∀ b m, b < 3 → m < 2 → f_HSegments_leastMode_L6 (nI i) (nI s) (nI (t i)) (nI g) M (nI b) (nI m) = some (Sum.inl (nI (if mayB m (t i) = true ∧ v3S g (TK t n g (n - 1 - i)) s m ≤ v3S g (TK t n g (n - 1 - i)) s b then m else b), iZ ((m : Int) - 1))) := by
    intro b m hb3 hm2
    unfold f_HSegments_leastMode_L6
    have em : nI m + (-1) = iZ ((m : Int) - 1) := by rw [iZ_nI, show (-1 : Int32) = iZ (-1) from rfl, iZ_add]; rfl
    have v1 := v3_b (t := t) (n := n) (g := g) (k := n - 1 - i) (s := s) (m := m) hg hs (by omega) (by omega)
    have v2 := v3_b (t := t) (n := n) (g := g) (k := n - 1 - i) (s := s) (m := b) hg hs (by omega) (by omega)
    rw [if_neg (nI_pos (by omega)), s_isOf (by omega) hb, bd1_s, em]
    by_cases c : mayB m (t i) = true
    · rw [if_pos c, if_neg (by decide), s_bitsBy h hn hg hi hs (by omega), bd1_s, s_bitsBy h hn hg hi hs hb3, bd1_s, if_nIlt (by omega) (by omega)]
      by_cases d : v3S g (TK t n g (n - 1 - i)) s b < v3S g (TK t n g (n - 1 - i)) s m
      · rw [if_pos d, bd1_s, if_neg (fun z => by have := z.2; omega)]
      · rw [if_neg d, bd1_s, if_pos ⟨c, by omega⟩]
    · rw [if_neg c, if_pos rfl, bd1_s, if_neg (fun z => c z.1)]
  have f1 := stp 2 1 (by omega) (by omega)
  have l1 : (if mayB 1 (t i) = true ∧ v3S g (TK t n g (n - 1 - i)) s 1 ≤ v3S g (TK t n g (n - 1 - i)) s 2 then 1 else 2) < 3 := by split <;> omega
  have f2 := stp _ 0 l1 (by omega)
  have f3 : f_HSegments_leastMode_L6 (nI i) (nI s) (nI (t i)) (nI g) M (nI (lmS g (t i) (TK t n g (n - 1 - i)) s)) (iZ (((0 : Nat) : Int) - 1)) = some (Sum.inr (nI (lmS g (t i) (TK t n g (n - 1 - i)) s))) := by
    unfold f_HSegments_leastMode_L6
    rw [if_pos (by decide)]
  unfold f_HSegments_leastMode
  have e : lp (uc2 (f_HSegments_leastMode_L6 (nI i) (nI s) (nI (t i)) (nI g) M)) (2, 1) = some (nI (lmS g (t i) (TK t n g (n - 1 - i)) s)) := lp_l f1 (lp_l f2 (lp_r f3))
  rw [e, bd1_s]
theorem s_plan {M : im_M} {k n g : Nat} {t : Nat → Nat} (ho : OCl M k n t) (hg : g < 3) : ed (f_HSegments_plan (nI (200 * k)) (nI n) (nI g) M) (fun r => r.1 = nI (TK t n g n 6) ∧ (∀ i, i < n → im_i r.2 42 i = nI (mdS t n g i)) ∧ fr (2 ^ 41 ||| 2 ^ 42) [] M r.2) := by
  obtain ⟨h0, hn, h2, h3⟩ := ho
  have by14 : ∀ R : im_M, im_i R 14 = im_i M 14 → ∀ i, i < n → im_i R 14 (Int32.toNatClampNeg (nI (200 * k) + nI i)) &&& 255 = nI (t i) := fun R hR i hi => by
    rw [nI_add, nI_clamp (by omega), hR]
    exact (h3 i hi).2
  unfold f_HSegments_plan f_Arrays_fill_3 f_Arrays_rangeCheck
  have e3 : (7 : Int32) * nI n = nI (7 * n) := nI_m 7
  have e4 : nI (7 * n) + 7 = nI (7 * n + 7) := nI_add _ 7
  have c1 : nI (7 * n) ≤ nI (7 * n + 7) := by rw [nIl (by omega) (by omega)]; omega
  have c2 : (0 : Int32) ≤ nI (7 * n) := by rw [show (0 : Int32) = nI 0 from rfl, nIl (by omega) (by omega)]; omega
  have c3 : nI (7 * n + 7) ≤ 1407 := by rw [show (1407 : Int32) = nI 1407 from rfl, nIl (by omega) (by omega)]; omega
  rw [e3, e4, if_pos c1, if_pos c2, if_pos c3]
  apply bd1_mk
  show ed (bd1 (lp (uc2 (f_Arrays_fill_3_L10 (nI (7 * n + 7)) 0)) (nI (7 * n), M)) fun (M7 : im_M) => some M7) _
  apply bd1_mk
  refine ed_mono (lp_inv (fun m (s : Int32 × im_M) => ∃ k : Nat, k + m = 7 ∧ s.1 = nI (7 * n + k) ∧ (∀ j, j < k → im_i s.2 41 (7 * n + j) = 0) ∧ fr (2 ^ 41 ||| 2 ^ 42) [] M s.2) (Q := fun R => (∀ j, j < 7 → im_i R 41 (7 * n + j) = 0) ∧ fr (2 ^ 41 ||| 2 ^ 42) [] M R) ?_ (k := 7) ⟨0, rfl, rfl, fun j hj => absurd hj (Nat.not_lt_zero _), fr_refl⟩) ?_
  · rintro m ⟨x5, M6⟩ ⟨k, hk, e1, e2, hf⟩
    replace e1 : x5 = nI (7 * n + k) := e1
    replace e2 : ∀ j, j < k → im_i M6 41 (7 * n + j) = 0 := e2
    replace hf : fr (2 ^ 41 ||| 2 ^ 42) [] M M6 := hf
    subst e1
    show ed (f_Arrays_fill_3_L10 (nI (7 * n + 7)) 0 (nI (7 * n + k)) M6) _
    unfold f_Arrays_fill_3_L10
    rw [if_nIl (by omega) (by omega)]
    by_cases c : 7 * n + 7 ≤ 7 * n + k
    · rw [if_pos c]
      obtain rfl : k = 7 := by omega
      exact lpo_r ⟨e2, hf⟩
    · rw [if_neg c, gd_pos (by rw [inb_nI (by omega)]; omega), nI_clamp (by omega)]
      refine lpo_l (m - 1) (by omega) ⟨k + 1, by omega, nI_add (7 * n + k) 1, fun j hj => ?_, fr_I (by decide) hf⟩
      show im_i (im_setI M6 41 (7 * n + k) 0) 41 (7 * n + j) = 0
      by_cases e : j = k
      · subst e; exact hit
      · rw [sk1 (by omega)]; exact e2 j (by omega)
  · rintro M1 ⟨z1, f1⟩
    refine ed_mk ?_
    have em : nI n - 1 = iZ ((n : Int) - 1) := by rw [iZ_nI, show (1 : Int32) = iZ 1 from rfl, iZ_sub]
    rw [em]
    apply bd1_mk
    refine ed_mono (lp_inv (fun m (s : Int32 × im_M) => m ≤ n ∧ s.1 = iZ ((m : Int) - 1) ∧ TA s.2 t n g m ∧ fr (2 ^ 41 ||| 2 ^ 42) [] M s.2) (Q := fun R => TA R t n g 0 ∧ fr (2 ^ 41 ||| 2 ^ 42) [] M R) ?_ (k := n) ⟨Nat.le_refl _, rfl, fun i s h1 h2 hs => ?_, f1⟩) ?_
    · rintro m ⟨x6, M7⟩ ⟨hm, e1, hT, hf⟩
      replace e1 : x6 = iZ ((m : Int) - 1) := e1
      replace hT : TA M7 t n g m := hT
      replace hf : fr (2 ^ 41 ||| 2 ^ 42) [] M M7 := hf
      subst e1
      show ed (f_HSegments_plan_L24 (nI (200 * k)) (nI n) (nI g) (iZ ((m : Int) - 1)) M7) _
      unfold f_HSegments_plan_L24
      have k0 : (iZ ((m : Int) - 1) < 0) = ((m : Int) - 1 < 0) := iZ_lt (b := 0) (by omega) (by omega)
      simp only [k0]
      by_cases c : (m : Int) - 1 < 0
      · rw [if_pos c]
        obtain rfl : m = 0 := by omega
        exact lpo_r ⟨hT, hf⟩
      · obtain ⟨i, rfl⟩ : ∃ i, m = i + 1 := ⟨m - 1, by omega⟩
        have ei : iZ (((i + 1 : Nat) : Int) - 1) = nI i := by rw [iZ_nI]; congr 1; omega
        have hi : i < n := by omega
        rw [if_neg c, ei]
        apply bd1_mk
        refine ed_mono (lp_inv (fun m (s : Int32 × im_M) => ∃ u : Nat, u + m = 7 ∧ s.1 = nI u ∧ TA s.2 t n g (i + 1) ∧ (∀ j, j < u → im_i s.2 41 (7 * i + j) = nI (TK t n g (n - i) j)) ∧ fr (2 ^ 41 ||| 2 ^ 42) [] M s.2) (Q := fun R => TA R t n g i ∧ fr (2 ^ 41 ||| 2 ^ 42) [] M R) ?_ (k := 7) ⟨0, rfl, rfl, hT, fun j hj => absurd hj (Nat.not_lt_zero _), hf⟩) ?_
        · rintro m ⟨x13, M14⟩ ⟨u, hu, e1, hT, hr, hf⟩
          replace e1 : x13 = nI u := e1
          replace hT : TA M14 t n g (i + 1) := hT
          replace hr : ∀ j, j < u → im_i M14 41 (7 * i + j) = nI (TK t n g (n - i) j) := hr
          replace hf : fr (2 ^ 41 ||| 2 ^ 42) [] M M14 := hf
          subst e1
          show ed (f_HSegments_plan_L32 (nI (200 * k)) (nI n) (nI g) (nI i) (nI u) M14) _
          unfold f_HSegments_plan_L32
          have k7 : ((7 : Int32) ≤ nI u) = (7 ≤ u) := nIl (x := 7) (by omega) (by omega)
          simp only [k7]
          by_cases c7 : 7 ≤ u
          · rw [if_pos c7]
            obtain rfl : u = 7 := by omega
            refine lpo_r ⟨fun j s j1 j2 hs => ?_, hf⟩
            by_cases e : j = i
            · subst e; exact hr s hs
            · exact hT j s (by omega) j2 hs
          · have lm := lm_lt (g := g) (b := t i) (F := TK t n g (n - 1 - i)) (s := u)
            have e7 : (7 : Int32) * nI i + nI u = nI (7 * i + u) := by rw [nI_m, nI_add]
            rw [if_neg c7, gd_pos (by rw [nI_add, inb_nI (by omega)]; omega), by14 M14 (fr_c hf 14 (by decide) (by simp)) i hi, s_leastMode hT hn hg hi (by omega) (h3 i hi).1, bd1_s, s_bitsBy hT hn hg hi (by omega) lm, bd1_s, ← TK_s hi, e7, gd_pos (by rw [inb_nI (by omega)]; omega), nI_clamp (by omega)]
            refine lpo_l (m - 1) (by omega) ⟨u + 1, by omega, nI_add u 1, fun j s j1 j2 hs => ?_, fun j hj => ?_, fr_I (by decide) hf⟩
            · show im_i (im_setI M14 41 (7 * i + u) _) 41 (7 * j + s) = _
              rw [sk1 (by omega)]
              exact hT j s j1 j2 hs
            · show im_i (im_setI M14 41 (7 * i + u) _) 41 (7 * i + j) = _
              by_cases e : j = u
              · subst e; exact hit
              · rw [sk1 (by omega)]; exact hr j (by omega)
        · rintro R ⟨hT2, fR⟩
          refine lpo_l i (by omega) ⟨by omega, ?_, hT2, fR⟩
          show nI i + (-1) = iZ ((i : Int) - 1)
          rw [iZ_nI, show (-1 : Int32) = iZ (-1) from rfl, iZ_add]
          rfl
    · obtain rfl : i = n := by omega
      rw [Nat.sub_self]
      exact z1 s hs
    · rintro M18 ⟨hT, f18⟩
      have tt : ∀ R : im_M, im_i R 41 = im_i M18 41 → ∀ i, TA R t n g i := fun R hR i a s h1 h2 hs => by
        rw [hR]
        exact hT a s (Nat.zero_le _) h2 hs
      apply bd1_mk
      refine ed_mono (lp_inv (fun m (s : Int32 × Int32 × im_M) => ∃ i : Nat, i + m = n ∧ s.1 = nI (stS t n g i) ∧ s.2.1 = nI i ∧ (∀ j, j < i → im_i s.2.2 42 j = nI (mdS t n g j)) ∧ fr (2 ^ 42) [] M18 s.2.2) (Q := fun R => (∀ j, j < n → im_i R 42 j = nI (mdS t n g j)) ∧ fr (2 ^ 42) [] M18 R) ?_ (k := n) ⟨0, by omega, rfl, rfl, fun j hj => absurd hj (Nat.not_lt_zero _), fr_refl⟩) ?_
      · rintro m ⟨x23, x24, M25⟩ ⟨i, hi, e1, e2, hr, hf⟩
        replace e1 : x23 = nI (stS t n g i) := e1
        replace e2 : x24 = nI i := e2
        replace hr : ∀ j, j < i → im_i M25 42 j = nI (mdS t n g j) := hr
        replace hf : fr (2 ^ 42) [] M18 M25 := hf
        subst e1 e2
        show ed (f_HSegments_plan_L105 (nI (200 * k)) (nI n) (nI g) (nI (stS t n g i)) (nI i) M25) _
        unfold f_HSegments_plan_L105
        rw [if_nIl (by omega) (by omega)]
        by_cases c : n ≤ i
        · rw [if_pos c]
          obtain rfl : i = n := by omega
          exact lpo_r ⟨hr, hf⟩
        · have sl := st_lt (t := t) (n := n) (g := g) i
          have ml := md_lt (t := t) (n := n) (g := g) (i := i)
          have a14 : im_i M25 14 = im_i M 14 := (fr_c hf 14 (by decide) (by simp)).trans (fr_c f18 14 (by decide) (by simp))
          have hl := s_leastMode (tt M25 (fr_c hf 41 (by decide) (by simp)) (i + 1)) hn hg (show i < n by omega) sl (h3 i (by omega)).1
          replace hl : f_HSegments_leastMode (nI i) (nI (stS t n g i)) (nI (t i)) (nI g) M25 = some (nI (mdS t n g i)) := hl
          have e7 : (7 : Int32) * nI (mdS t n g i) + nI (stS t n g i) = nI (7 * mdS t n g i + stS t n g i) := by rw [nI_m, nI_add]
          have ex : xa_7 (nI (7 * mdS t n g i + stS t n g i)) = nI (nxS (mdS t n g i) (stS t n g i)) := (tb_nx ⟨mdS t n g i, ml⟩ ⟨stS t n g i, sl⟩).1
          have nb : vp_nar .byte ((Int32.toInt8 (nI (mdS t n g i))).toInt32) = nI (mdS t n g i) := (show ∀ m : Fin 3, vp_nar .byte ((Int32.toInt8 (nI m.val)).toInt32) = nI m.val by decide +kernel) ⟨mdS t n g i, ml⟩
          rw [if_neg c, gd_pos (by rw [nI_add, inb_nI (by omega)]; omega), by14 M25 a14 i (by omega), hl, bd1_s, gd_pos (by rw [inb_nI (by omega)]; omega), e7, gd_pos (by rw [inb_nI (by omega)]; omega), ex, nb, nI_clamp (by omega)]
          refine lpo_l (m - 1) (by omega) ⟨i + 1, by omega, rfl, nI_add i 1, fun j hj => ?_, fr_I (by decide) hf⟩
          show im_i (im_setI M25 42 i _) 42 j = _
          by_cases e : j = i
          · subst e; exact hit
          · rw [sk1 (fun z => e z.2)]; exact hr j (by omega)
      · rintro R ⟨hr, fR⟩
        rw [gd_pos (by decide)]
        refine ed_mk ⟨?_, hr, fr_tr (fr_mono (by decide) (by simp) fR) f18⟩
        show im_i R 41 6 = _
        have := tt R (fr_c fR 41 (by decide) (by simp)) 0 0 6 (Nat.le_refl _) (Nat.zero_le _) (by omega)
        rw [Nat.sub_zero] at this
        exact this
