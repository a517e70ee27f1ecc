/-! THE FEWEST BITS, BY THE REFERENCE -/
def TQ (M : im_M) (n : Nat) (t : Nat → Nat) : Prop := im_i M 108 4 = nI n ∧ n ≤ 200 ∧ ∀ i, i < n → t i < 256 ∧ im_i M 111 i = nI (t i)
theorem TQ_fr {A : Nat} {F : List (Nat × Nat)} {M M' : im_M} {n : Nat} {t : Nat → Nat} (h : fr A F M M') (c : clr A F [111] [(108, 4)] [] = true) (q : TQ M n t) : TQ M' n t := by
  unfold TQ at q ⊢
  rw [clr_a c h (a := 111) (by decide), clr_f c h (a := 108) (k := 4) (by decide)]
  exact q
def TR (M : im_M) (t : Nat → Nat) (n g k : Nat) : Prop := ∀ i s, k ≤ i → i ≤ n → s < 6 → im_i M 118 (6 * i + s) = nI (TK t n g (n - i) s)
def rsT (t : Nat → Nat) (n g i s m : Nat) : Nat := if mayB m (t i) = true then v3S g (TK t n g (n - 1 - i)) s m else 1000000
theorem s_restOf {M : im_M} {t : Nat → Nat} {n g i s m : Nat} (q : TQ M n t) (h : TR M t n g (i + 1)) (hg : g < 3) (hi : i < n) (hs : s < 7) (hm : m < 3) : f_MSquareRows_restOf (nI i) (sI s) (nI m) (nI g) M = some (nI (rsT t n g i s m)) := by
  obtain ⟨q0, hn, q2⟩ := q
  have ti := q2 i hi
  have nx := nx_6 hm hs
  unfold f_MSquareRows_restOf rsT
  have e6 : (6 : Int32) * (nI i + 1) + nI (nxS m s) = nI (6 * (i + 1) + nxS m s) := by rw [show nI i + 1 = nI (i + 1) from nI_add i 1, nI_m, nI_add]
  have z := h (i + 1) (nxS m s) (Nat.le_refl _) (by omega) nx
  rw [show n - (i + 1) = n - 1 - i by omega] at z
  have ry : f_MSquareRows_may (nI m) (nI (t i)) M = some (if mayB m (t i) = true then 1 else 0) := rf_may ⟨m, hm⟩ ⟨t i, ti.1⟩
  have rc : f_MSquareRows_costOf (sI s) (nI m) (nI g) M = some (nI (csS g s m)) := rf_cs ⟨g, hg⟩ ⟨m, hm⟩ ⟨s, hs⟩
  have rs : f_MSquareRows_stateAfter (sI s) (nI m) M = some (nI (nxS m s)) := rf_st ⟨m, hm⟩ ⟨s, hs⟩
  rw [gd_pos (by rw [inb_nI (by omega)]; omega), nI_clamp (by omega), ti.2, ry, bd1_s]
  by_cases c : mayB m (t i) = true
  · rw [if_pos c, if_neg (by decide), rc, bd1_s, rs, bd1_s, e6, gd_pos (by rw [inb_nI (by omega)]; omega), nI_clamp (by omega), z, nI_add, if_pos c]
    rfl
  · rw [if_neg c, if_pos rfl, if_neg c]
    rfl
theorem rs_lm {t : Nat → Nat} {n g i s : Nat} (hg : g < 3) (hn : n ≤ 200) (hs : s < 7) : rsT t n g i s (lmS g (t i) (TK t n g (n - 1 - i)) s) = v3S g (TK t n g (n - 1 - i)) s (lmS g (t i) (TK t n g (n - 1 - i)) s) ∧ v3S g (TK t n g (n - 1 - i)) s (lmS g (t i) (TK t n g (n - 1 - i)) s) ≤ 6000 ∧ ∀ m, m < 3 → v3S g (TK t n g (n - 1 - i)) s (lmS g (t i) (TK t n g (n - 1 - i)) s) ≤ rsT t n g i s m ∧ rsT t n g i s m ≤ 1000000 ∧ (m < lmS g (t i) (TK t n g (n - 1 - i)) s → rsT t n g i s m ≠ v3S g (TK t n g (n - 1 - i)) s (lmS g (t i) (TK t n g (n - 1 - i)) s)) := by
  have l := lm_lt (g := g) (b := t i) (F := TK t n g (n - 1 - i)) (s := s)
  have vb := v3_b (t := t) (n := n) (g := g) (k := n - 1 - i) (s := s) (m := lmS g (t i) (TK t n g (n - 1 - i)) s) hg hs l (by omega)
  refine ⟨if_pos lm_may, vb, fun m hm => ?_⟩
  unfold rsT
  by_cases c : mayB m (t i) = true
  · rw [if_pos c]
    have a := lm_min (g := g) (s := s) (F := TK t n g (n - 1 - i)) hm c
    have b := v3_b (t := t) (n := n) (g := g) (k := n - 1 - i) (s := s) (m := m) hg hs hm (by omega)
    refine ⟨a.1, by omega, fun z => ?_⟩
    have := a.2 z
    omega
  · rw [if_neg c]
    exact ⟨by omega, by omega, fun _ => by omega⟩
theorem s_leastM {M : im_M} {t : Nat → Nat} {n g i s : Nat} (q : TQ M n t) (h : TR M t n g (i + 1)) (hg : g < 3) (hi : i < n) (hs : s < 7) : f_MSquareRows_least (nI i) (sI s) (nI g) M = some (nI (TK t n g (n - i) s)) := by
  have hn := q.2.1
  obtain ⟨r1, r2, r3⟩ := rs_lm (t := t) (n := n) (g := g) (i := i) (s := s) hg hn hs
  have l := lm_lt (g := g) (b := t i) (F := TK t n g (n - 1 - i)) (s := s)
  have stp : ∀ b m, b ≤ 1000000 → m < 3 → f_MSquareRows_least_L7 (nI i) (sI s) (nI g) M (nI b) (nI m) = some (Sum.inl (nI (min b (rsT t n g i s m)), nI (m + 1))) := by
    intro b m hb hm
    unfold f_MSquareRows_least_L7
    have k3 : ((3 : Int32) ≤ nI m) = (3 ≤ m) := nIl (x := 3) (by omega) (by omega)
    simp only [k3]
    have := (r3 m hm).2.1
    rw [if_neg (by omega), s_restOf q h hg hi hs hm, bd1_s, if_nIl (by omega) (by omega)]
    have e : (if b ≤ rsT t n g i s m then nI b else nI (rsT t n g i s m)) = nI (min b (rsT t n g i s m)) := by
      by_cases c : b ≤ rsT t n g i s m
      · rw [if_pos c, Nat.min_eq_left c]
      · rw [if_neg c, Nat.min_eq_right (by omega)]
    rw [e]
    exact congrArg (fun z => some (Sum.inl (_, z))) (nI_add m 1)
  have f1 := stp 1000000 0 (by omega) (by omega)
  have f2 := stp (min 1000000 (rsT t n g i s 0)) 1 (by omega) (by omega)
  have f3 := stp (min (min 1000000 (rsT t n g i s 0)) (rsT t n g i s 1)) 2 (by omega) (by omega)
  have e : min (min (min 1000000 (rsT t n g i s 0)) (rsT t n g i s 1)) (rsT t n g i s 2) = TK t n g (n - i) s := by
    rw [TK_s hi]
    have a0 := r3 0 (by omega)
    have a1 := r3 1 (by omega)
    have a2 := r3 2 (by omega)
    generalize v3S g (TK t n g (n - 1 - i)) s (lmS g (t i) (TK t n g (n - 1 - i)) s) = v at *
    generalize lmS g (t i) (TK t n g (n - 1 - i)) s = m at *
    have c : m = 0 ∨ m = 1 ∨ m = 2 := by omega
    rcases c with rfl | rfl | rfl <;> omega
  rw [e] at f3
  have f4 : f_MSquareRows_least_L7 (nI i) (sI s) (nI g) M (nI (TK t n g (n - i) s)) (nI 3) = some (Sum.inr (nI (TK t n g (n - i) s))) := by
    unfold f_MSquareRows_least_L7
    rw [if_pos (by decide)]
  unfold f_MSquareRows_least
  have e : lp (uc2 (f_MSquareRows_least_L7 (nI i) (sI s) (nI g) M)) (1000000, 0) = some (nI (TK t n g (n - i) s)) := lp_l f1 (lp_l f2 (lp_l f3 (lp_r f4)))
  rw [e, bd1_s]
theorem s_divideM {M : im_M} {n g : Nat} {t : Nat → Nat} (q : TQ M n t) (hg : g < 3) : ed (f_MSquareRows_divide (nI g) M) (fun R => im_i R 108 16 = nI (TK t n g n 6) ∧ (∀ i, i < n → im_i R 117 i = nI (mdS t n g i)) ∧ fr (2 ^ 117 ||| 2 ^ 118) [(108, 16)] M R) := by
  have hn := q.2.1
  unfold f_MSquareRows_divide
  apply bd1_mk
  refine ed_mono (lp_inv (fun m (s : Int32 × im_M) => ∃ k : Nat, k + m = 6 ∧ s.1 = nI k ∧ (∀ j, j < k → im_i s.2 118 (6 * n + j) = 0) ∧ fr (2 ^ 118) [] M s.2) (Q := fun R => (∀ j, j < 6 → im_i R 118 (6 * n + j) = 0) ∧ fr (2 ^ 118) [] M R) ?_ (k := 6) ⟨0, rfl, rfl, fun j hj => absurd hj (Nat.not_lt_zero _), fr_refl⟩) ?_
  · rintro m ⟨x5, M6⟩ ⟨k, hk, e1, e2, hf⟩
    replace e1 : x5 = nI k := e1
    replace e2 : ∀ j, j < k → im_i M6 118 (6 * n + j) = 0 := e2
    replace hf : fr (2 ^ 118) [] M M6 := hf
    subst e1
    show ed (f_MSquareRows_divide_L2 (nI g) (nI k) M6) _
    unfold f_MSquareRows_divide_L2
    have k6 : ((6 : Int32) ≤ nI k) = (6 ≤ k) := nIl (x := 6) (by omega) (by omega)
    have e6 : (6 : Int32) * nI n + nI k = nI (6 * n + k) := by rw [nI_m, nI_add]
    simp only [k6]
    by_cases c : 6 ≤ k
    · rw [if_pos c]
      obtain rfl : k = 6 := by omega
      exact lpo_r ⟨e2, hf⟩
    · rw [if_neg c, (TQ_fr hf (by decide +kernel) q).1, e6, gd_pos (by rw [inb_nI (by omega)]; omega), nI_clamp (by omega)]
      refine lpo_l (m - 1) (by omega) ⟨k + 1, by omega, nI_add k 1, fun j hj => ?_, fr_I (by decide) hf⟩
      show im_i (im_setI M6 118 (6 * n + k) 0) 118 (6 * n + j) = 0
      by_cases e : j = k
      · subst e; exact hit
      · rw [sk1 (by omega)]; exact e2 j (by omega)
  · rintro M5 ⟨z5, f5⟩
    have em : nI n - 1 = iZ ((n : Int) - 1) := by rw [iZ_nI, show (1 : Int32) = iZ 1 from rfl, iZ_sub]
    rw [(TQ_fr f5 (by decide +kernel) q).1, em]
    apply bd1_mk
    refine ed_mono (lp_inv (fun m (s : Int32 × im_M) => m ≤ n ∧ s.1 = iZ ((m : Int) - 1) ∧ TR s.2 t n g m ∧ fr (2 ^ 118) [] M s.2) (Q := fun R => TR R t n g 1 ∧ fr (2 ^ 118) [] M R) ?_ (k := n) ⟨Nat.le_refl _, rfl, fun i s h1 h2 hs => ?_, f5⟩) ?_
    · rintro m ⟨x8, M9⟩ ⟨hm, e1, hT, hf⟩
      replace e1 : x8 = iZ ((m : Int) - 1) := e1
      replace hT : TR M9 t n g m := hT
      replace hf : fr (2 ^ 118) [] M M9 := hf
      subst e1
      show ed (f_MSquareRows_divide_L36 (nI g) (iZ ((m : Int) - 1)) M9) _
      unfold f_MSquareRows_divide_L36
      have k0 : (iZ ((m : Int) - 1) ≤ 0) = ((m : Int) - 1 ≤ 0) := iZ_le (b := 0) (by omega) (by omega)
      simp only [k0]
      by_cases c : (m : Int) - 1 ≤ 0
      · rw [if_pos c]
        exact lpo_r ⟨fun i s h1 h2 hs => hT i s (by omega) h2 hs, hf⟩
      · obtain ⟨i, rfl⟩ : ∃ i, m = i + 1 := ⟨m - 1, by omega⟩
        have ei : iZ (((i + 1 : Nat) : Int) - 1) = nI i := by rw [iZ_nI]; congr 1; omega
        have hi : i < n := by omega
        rw [if_neg c, ei]
        apply bd1_mk
        refine ed_mono (lp_inv (fun m (s : Int32 × im_M) => ∃ u : Nat, u + m = 6 ∧ s.1 = nI u ∧ TR s.2 t n g (i + 1) ∧ (∀ j, j < u → im_i s.2 118 (6 * i + j) = nI (TK t n g (n - i) j)) ∧ fr (2 ^ 118) [] M s.2) (Q := fun R => TR R t n g i ∧ fr (2 ^ 118) [] M R) ?_ (k := 6) ⟨0, rfl, rfl, hT, fun j hj => absurd hj (Nat.not_lt_zero _), hf⟩) ?_
        · rintro m ⟨x13, M14⟩ ⟨u, hu, e1, hT, hr, hf⟩
          replace e1 : x13 = nI u := e1
          replace hT : TR M14 t n g (i + 1) := hT
          replace hr : ∀ j, j < u → im_i M14 118 (6 * i + j) = nI (TK t n g (n - i) j) := hr
          replace hf : fr (2 ^ 118) [] M M14 := hf
          subst e1
          show ed (f_MSquareRows_divide_L42 (nI g) (nI i) (nI u) M14) _
          unfold f_MSquareRows_divide_L42
          have k7 : ((6 : Int32) ≤ nI u) = (6 ≤ u) := nIl (x := 6) (by omega) (by omega)
          simp only [k7]
          by_cases c7 : 6 ≤ u
          · rw [if_pos c7]
            obtain rfl : u = 6 := by omega
            refine lpo_r ⟨fun j s j1 j2 hs => ?_, hf⟩
            by_cases e : j = i
            · subst e; exact hr s hs
            · exact hT j s (by omega) j2 hs
          · have e7 : (6 : Int32) * nI i + nI u = nI (6 * i + u) := by rw [nI_m, nI_add]
            have es : sI u = nI u := if_neg (by omega)
            have ll := s_leastM (s := u) (TQ_fr hf (by decide +kernel) q) hT hg hi (by omega)
            rw [es] at ll
            rw [if_neg c7, ll, bd1_s, e7, gd_pos (by rw [inb_nI (by omega)]; omega), nI_clamp (by omega)]
            refine lpo_l (m - 1) (by omega) ⟨u + 1, by omega, nI_add u 1, fun j s j1 j2 hs => ?_, fun j hj => ?_, fr_I (by decide) hf⟩
            · show im_i (im_setI M14 118 (6 * i + u) _) 118 (6 * j + s) = _
              rw [sk1 (by omega)]
              exact hT j s j1 j2 hs
            · show im_i (im_setI M14 118 (6 * i + u) _) 118 (6 * i + j) = _
              by_cases e : j = u
              · subst e; exact hit
              · rw [sk1 (by omega)]; exact hr j (by omega)
        · rintro R ⟨hT2, fR⟩
          refine lpo_l i (by omega) ⟨by omega, ?_, hT2, fR⟩
          show nI i + (-1) = iZ ((i : Int) - 1)
          rw [iZ_nI, show (-1 : Int32) = iZ (-1) from rfl, iZ_add]
          rfl
    · obtain rfl : i = n := by omega
      rw [Nat.sub_self]
      exact z5 s hs
    · rintro M17 ⟨hT, f17⟩
      have q17 := TQ_fr f17 (by decide +kernel) q
      have tt : ∀ R : im_M, im_i R 118 = im_i M17 118 → ∀ i, TR R t n g (i + 1) := fun R hR i a s h1 h2 hs => by
        rw [hR]
        exact hT a s (by omega) h2 hs
      have bt : (if ¬ im_i M17 108 4 = 0 then bd1 (f_MSquareRows_least 0 (-1) (nI g) M17) fun (x19 : Int32) => some x19 else some 0) = some (nI (TK t n g n 6)) := by
        have k0 : (nI n = 0) = (n = 0) := nIe (c := 0) (by omega) (by omega)
        rw [q17.1]
        simp only [k0]
        by_cases c : n = 0
        · rw [if_neg (fun z => z c)]
          subst c
          rfl
        · have ll := s_leastM (i := 0) (s := 6) q17 (tt M17 rfl 0) hg (by omega) (by omega)
          replace ll : f_MSquareRows_least 0 (-1) (nI g) M17 = some (nI (TK t n g (n - 0) 6)) := ll
          rw [if_pos c, ll, bd1_s, Nat.sub_zero]
      rw [bt, bd1_s, hit]
      have f20 : fr (2 ^ 117 ||| 2 ^ 118) [(108, 16)] M (im_setI M17 108 16 (nI (TK t n g n 6))) := fr_F (by decide) (fr_mono (by decide) (by simp) f17)
      generalize hN : im_setI M17 108 16 (nI (TK t n g n 6)) = N at f20
      have n118 : im_i N 118 = im_i M17 118 := by rw [← hN]; exact up_o (by decide)
      have n16 : im_i N 108 16 = nI (TK t n g n 6) := by rw [← hN]; exact hit
      apply bd1_mk
      refine ed_mono (lp_inv (fun m (s : Int32 × Int32 × Int32 × im_M) => ∃ i : Nat, i + m = n ∧ s.1 = sI (stS t n g i) ∧ s.2.1 = nI (TK t n g (n - i) (stS t n g i)) ∧ s.2.2.1 = nI i ∧ (∀ j, j < i → im_i s.2.2.2 117 j = nI (mdS t n g j)) ∧ fr (2 ^ 117) [] N s.2.2.2) (Q := fun R => (∀ j, j < n → im_i R 117 j = nI (mdS t n g j)) ∧ fr (2 ^ 117) [] N R) ?_ (k := n) ⟨0, by omega, rfl, rfl, rfl, fun j hj => absurd hj (Nat.not_lt_zero _), fr_refl⟩) ?_
      · rintro m ⟨x25, x26, x27, M28⟩ ⟨i, hi, e1, e2, e3, hr, hf⟩
        replace e1 : x25 = sI (stS t n g i) := e1
        replace e2 : x26 = nI (TK t n g (n - i) (stS t n g i)) := e2
        replace e3 : x27 = nI i := e3
        replace hr : ∀ j, j < i → im_i M28 117 j = nI (mdS t n g j) := hr
        replace hf : fr (2 ^ 117) [] N M28 := hf
        subst e1 e2 e3
        show ed (f_MSquareRows_divide_L110 (nI g) (sI (stS t n g i)) (nI (TK t n g (n - i) (stS t n g i))) (nI i) M28) _
        unfold f_MSquareRows_divide_L110
        have q28 := TQ_fr (fr_tr (fr_mono (by decide) (by simp) hf) f20) (by decide +kernel) q
        rw [q28.1, if_nIl (by omega) (by omega)]
        by_cases c : n ≤ i
        · rw [if_pos c]
          obtain rfl : i = n := by omega
          exact lpo_r ⟨hr, hf⟩
        · have hin : i < n := by omega
          have sl := st_lt (t := t) (n := n) (g := g) i
          have ml := md_lt (t := t) (n := n) (g := g) (i := i)
          have t28 := tt M28 ((fr_c hf 118 (by decide) (by simp)).trans n118) i
          obtain ⟨r1, r2, r3⟩ := rs_lm (t := t) (n := n) (g := g) (i := i) (s := stS t n g i) hg hn sl
          rw [← TK_s hin] at r1 r2
          have run : ed (lp (uc1 (f_MSquareRows_divide_L122 (nI g) (sI (stS t n g i)) (nI (TK t n g (n - i) (stS t n g i))) (nI i) M28)) 0) (fun r => r = nI (mdS t n g i)) := by
            refine lp_inv (fun m (x : Int32) => ∃ d : Nat, d + m = mdS t n g i ∧ x = nI d) ?_ (k := mdS t n g i) ⟨0, by omega, rfl⟩
            rintro m x34 ⟨d, hd, e⟩
            subst e
            show ed (f_MSquareRows_divide_L122 (nI g) (sI (stS t n g i)) (nI (TK t n g (n - i) (stS t n g i))) (nI i) M28 (nI d)) _
            unfold f_MSquareRows_divide_L122
            have rd := r3 d (by omega)
            rw [s_restOf q28 t28 hg hin sl (by omega), bd1_s]
            have ke : (nI (rsT t n g i (stS t n g i) d) = nI (TK t n g (n - i) (stS t n g i))) = (rsT t n g i (stS t n g i) d = TK t n g (n - i) (stS t n g i)) := nIe (by omega) (by omega)
            simp only [ke]
            by_cases z : d < mdS t n g i
            · rw [if_neg (by rw [TK_s hin]; exact rd.2.2 z)]
              exact lpo_l (m - 1) (by omega) ⟨d + 1, by omega, nI_add d 1⟩
            · obtain rfl : d = mdS t n g i := by omega
              rw [if_pos (show rsT t n g i (stS t n g i) (mdS t n g i) = TK t n g (n - i) (stS t n g i) from r1)]
              exact lpo_r rfl
          obtain ⟨r, hr1, rfl⟩ := run
          have rc : f_MSquareRows_costOf (sI (stS t n g i)) (nI (mdS t n g i)) (nI g) M28 = some (nI (csS g (stS t n g i) (mdS t n g i))) := rf_cs ⟨g, hg⟩ ⟨_, ml⟩ ⟨_, sl⟩
          have rs : f_MSquareRows_stateAfter (sI (stS t n g i)) (nI (mdS t n g i)) M28 = some (nI (nxS (mdS t n g i) (stS t n g i))) := rf_st ⟨_, ml⟩ ⟨_, sl⟩
          have tk : TK t n g (n - i) (stS t n g i) = csS g (stS t n g i) (mdS t n g i) + TK t n g (n - 1 - i) (stS t n g (i + 1)) := TK_s hin
          have sb : nI (TK t n g (n - i) (stS t n g i)) - nI (csS g (stS t n g i) (mdS t n g i)) = nI (TK t n g (n - (i + 1)) (stS t n g (i + 1))) := by
            rw [tk, nI_sb (by omega), Nat.add_sub_cancel_left, show n - (i + 1) = n - 1 - i by omega]
          rw [if_neg c, hr1, bd1_s, rc, bd1_s, rs, bd1_s, gd_pos (by rw [inb_nI (by omega)]; omega), sb, nI_clamp (by omega)]
          refine lpo_l (m - 1) (by omega) ⟨i + 1, by omega, ?_, rfl, nI_add i 1, fun j hj => ?_, fr_I (by decide) hf⟩
          · show nI (nxS (mdS t n g i) (stS t n g i)) = sI (stS t n g (i + 1))
            have := nx_6 ml sl
            exact (if_neg (by show ¬ nxS (mdS t n g i) (stS t n g i) = 6; omega)).symm
          · show im_i (im_setI M28 117 i _) 117 j = _
            by_cases e : j = i
            · subst e; exact hit
            · rw [sk1 (fun z => e z.2)]; exact hr j (by omega)
      · rintro R ⟨hr, fR⟩
        refine ed_mk ⟨?_, hr, fr_tr (fr_mono (by decide) (by simp) fR) f20⟩
        rw [fR.1 108 16 (by decide) (by simp)]
        exact n16
