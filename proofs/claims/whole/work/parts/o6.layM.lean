/-! SEGMENTS, LAID BY THE REFERENCE -/
theorem s_partR {M : im_M} {n m p c : Nat} {t : Nat → Nat} {e1 : Int32} (q : TQ M n t) (hm : m < 3) (hp : p + c ≤ n) (hy : ∀ j, p ≤ j → j < p + c → mayB m (t j) = true) : lp (uc2 (f_MSquareRows_laySegment_L120 e1 (nI m) (nI p) (nI c) M)) (0, 0) = some (nI (vlP m t p c)) := by
  obtain ⟨h0, hn, h3⟩ := q
  have k0 : (nI m = 0) = (m = 0) := nIe (c := 0) (by omega) (by omega)
  have k1 : (nI m = 1) = (m = 1) := nIe (c := 1) (by omega) (by omega)
  refine lp_row (fun i => (nI (vlP m t p i), nI i)) c (fun i hi => ?_) ?_
  · show f_MSquareRows_laySegment_L120 e1 (nI m) (nI p) (nI c) M (nI (vlP m t p i)) (nI i) = some (Sum.inl (nI (vlP m t p (i + 1)), nI (i + 1)))
    unfold f_MSquareRows_laySegment_L120
    obtain ⟨b1, b2⟩ := h3 (p + i) (by omega)
    rw [if_nIl (by omega) (by omega), if_neg (by omega)]
    simp only [k0, k1, nI_add]
    have ci : Int32.toNatClampNeg (nI (p + i)) = p + i := nI_clamp (by omega)
    have gi : inb (nI (p + i)) 3000 := by rw [inb_nI (by omega)]; omega
    simp only [gd_pos gi, ci, b2]
    have e : (if ¬ m = 0 then if ¬ m = 1 then some (nI (t (p + i))) else bd1 (f_MSquareRows_signOf (nI (t (p + i))) M) fun (x20 : Int32) => some (((45 : Int32) * nI (vlP m t p i)) + x20) else some ((((10 : Int32) * nI (vlP m t p i)) + nI (t (p + i))) - 48)) = some (nI (vlP m t p (i + 1))) := by
      show _ = some (nI (if m = 2 then t (p + i) else vlP m t p i * bsM m + (sgN (t (p + i))).getD 0))
      by_cases z : m = 2
      · rw [if_pos (by omega), if_pos (by omega), if_pos z]
      · obtain ⟨s1, s2, s3⟩ := may_sg (show m < 2 by omega) b1 (hy (p + i) (by omega) (by omega))
        have sr : f_MSquareRows_signOf (nI (t (p + i))) M = some (oI (sgN (t (p + i)))) := sg_ref ⟨t (p + i), b1⟩
        rw [if_neg z]
        by_cases y : m = 0
        · obtain ⟨s4, s5⟩ := s3 y
          rw [if_neg (fun w => w y), s5, nI_m, nI_add, show (48 : Int32) = nI 48 from rfl, nI_sb (by omega)]
          unfold bsM
          rw [if_pos y]
          congr 2
          show 10 * vlP m t p i + t (p + i) - 48 = vlP m t p i * 10 + (t (p + i) - 48)
          omega
        · rw [if_pos y, if_neg (show ¬ ¬ m = 1 by omega), sr, bd1_s, s1]
          show some ((45 : Int32) * nI (vlP m t p i) + nI ((sgN (t (p + i))).getD 0)) = some (nI (vlP m t p i * bsM m + ((some ((sgN (t (p + i))).getD 0)).getD 0)))
          unfold bsM
          rw [if_neg y, nI_m, nI_add, Nat.mul_comm]
          rfl
    rw [e, bd1_s]
    exact congrArg (fun z => some (Sum.inl (_, z))) (nI_add i 1)
  · show f_MSquareRows_laySegment_L120 e1 (nI m) (nI p) (nI c) M (nI (vlP m t p c)) (nI c) = _
    unfold f_MSquareRows_laySegment_L120
    rw [if_nIl (by omega) (by omega), if_pos (by omega)]
theorem ptB_0 {m e f p : Nat} {t : Nat → Nat} (h : e ≤ p) : ptB m t e f p = [] := by
  cases f with
  | zero => rfl
  | succ f => unfold ptB; rw [if_neg (by omega)]
theorem s_partsR {M : im_M} {n m st e : Nat} {t : Nat → Nat} {L : List Bool} (q : TQ M n t) (hm : m < 3) (he : st ≤ e ∧ e ≤ n) (hy : ∀ j, st ≤ j → j < e → mayB m (t j) = true) (b : BBr M L) (hl : L.length + plen m (e - st) ≤ 30400) : ed (lp (uc2 (f_MSquareRows_laySegment_L66 (nI e) (nI m))) (nI st, M)) (fun R => BBr R (L ++ ptB m t e (e - st) st) ∧ fr (2 ^ 119) [(108, 19)] M R) := by
  have hn := q.2.1
  have k0 : (nI m = 0) = (m = 0) := nIe (c := 0) (by omega) (by omega)
  have k1 : (nI m = 1) = (m = 1) := nIe (c := 1) (by omega) (by omega)
  have ea : ((if ¬ m = 0 then (if ¬ m = 1 then 1 else 2) else 3) : Int32) = nI (3 - m) := by
    have : m = 0 ∨ m = 1 ∨ m = 2 := by omega
    rcases this with rfl | rfl | rfl <;> rfl
  refine lp_inv (fun f (s : Int32 × im_M) => ∃ (p : Nat) (L2 : List Bool), st ≤ p ∧ e - p ≤ f ∧ p ≤ e ∧ s.1 = nI p ∧ L2 ++ ptB m t e f p = L ++ ptB m t e (e - st) st ∧ BBr s.2 L2 ∧ fr (2 ^ 119) [(108, 19)] M s.2) ?_ (k := e - st) ⟨st, L, Nat.le_refl _, Nat.le_refl _, by omega, rfl, rfl, b, fr_refl⟩
  rintro f ⟨x7, M8⟩ ⟨p, L2, p1, p2, p3, e1, eL, b8, f8⟩
  replace e1 : x7 = nI p := e1
  replace b8 : BBr M8 L2 := b8
  replace f8 : fr (2 ^ 119) [(108, 19)] M M8 := f8
  subst e1
  show ed (f_MSquareRows_laySegment_L66 (nI e) (nI m) (nI p) M8) _
  unfold f_MSquareRows_laySegment_L66
  rw [if_nIl (by omega) (by omega)]
  by_cases c : e ≤ p
  · rw [if_pos c]
    rw [ptB_0 c, List.append_nil] at eL
    rw [← eL]
    exact lpo_r ⟨b8, f8⟩
  · obtain ⟨f, rfl⟩ : ∃ f', f = f' + 1 := ⟨f - 1, by omega⟩
    have un : ptB m t e (f + 1) p = nB (vlP m t p (min (3 - m) (e - p))) (pbW m (min (3 - m) (e - p))) ++ ptB m t e f (p + (3 - m)) := by
      show (if p < e then _ else _) = _
      rw [if_pos (by omega)]
    have lt : (L2 ++ ptB m t e (f + 1) p).length ≤ 30400 := by
      rw [eL, List.length_append, ptB_l hm _ _ (Nat.le_refl _)]
      exact hl
    rw [un, List.length_append, List.length_append, nB_l] at lt
    have ec : (if nI (3 - m) ≤ nI e - nI p then nI (3 - m) else nI e - nI p) = nI (min (3 - m) (e - p)) := by
      rw [nI_sb (by omega), if_nIl (by omega) (by omega)]
      by_cases z : 3 - m ≤ e - p
      · rw [if_pos z, Nat.min_eq_left z]
      · rw [if_neg z, Nat.min_eq_right (by omega)]
    have ep : ∀ d : Nat, ((if ¬ m = 0 then (if ¬ m = 1 then 8 else (((5 : Int32) * nI d) + 1)) else (((3 : Int32) * nI d) + 1)) : Int32) = nI (pbW m d) := by
      intro d
      unfold pbW
      by_cases z : m = 0
      · rw [if_neg (fun y => y z), if_pos z, nI_m]; exact nI_add (3 * d) 1
      · rw [if_pos z, if_neg z]
        by_cases y : m = 1
        · rw [if_neg (fun w => w y), if_pos y, nI_m]; exact nI_add (5 * d) 1
        · rw [if_pos y, if_neg y]; rfl
    simp only [k0, k1, ea, ec, ep]
    rw [if_neg c, s_partR (TQ_fr f8 (by decide +kernel) q) hm (by omega) (fun j h1 h2 => hy j (by omega) (by omega)), bd1_s]
    apply bd1_mk
    refine ed_mono (s_layB b8 (by omega) (by have := pbW_b (m := m) (c := min (3 - m) (e - p)) (by omega); omega)) ?_
    rintro M30 ⟨b30, f30⟩
    rw [nI_add]
    refine lpo_l f (by omega) ⟨p + min (3 - m) (e - p), _, by omega, by omega, by omega, rfl, ?_, b30, fr_tr f30 f8⟩
    rw [← eL, un, List.append_assoc]
    congr 2
    by_cases z : 3 - m ≤ e - p
    · rw [Nat.min_eq_left z]
    · rw [ptB_0 (by omega), ptB_0 (by omega)]
theorem s_laySegment {M : im_M} {n g m st e c : Nat} {t : Nat → Nat} {L : List Bool} (q : TQ M n t) (hg : g < 3) (hm : m < 3) (em : im_i M 117 st = nI m) (he : st < e ∧ e ≤ n) (hy : ∀ j, st ≤ j → j < e → mayB m (t j) = true) (b : BBr M L) (hc : im_i M 108 13 = nI c) (c2 : c ≤ 200) (hl : L.length + (4 + cbS g m + plen m (e - st)) ≤ 30400) : ed (f_MSquareRows_laySegment (nI st) (nI e) (nI g) M) (fun R => BBr R (L ++ sgB t g m st e) ∧ im_i R 108 13 = nI (c + 1) ∧ fr (2 ^ 115 ||| 2 ^ 116 ||| 2 ^ 119) [(108, 13), (108, 19)] M R) := by
  have hn := q.2.1
  unfold f_MSquareRows_laySegment
  have cs : Int32.toNatClampNeg (nI st) = st := nI_clamp (by omega)
  have cc : Int32.toNatClampNeg (nI c) = c := nI_clamp (by omega)
  have o13 : ∀ (a k : Nat) (x : Int32), a ≠ 108 → im_i (im_setI M a k x) 108 13 = nI c := fun a k x ha => by rw [sk1 (by omega)]; exact hc
  have o13b : im_i (im_setI (im_setI M 115 c (nI m)) 116 c (nI e - nI st)) 108 13 = nI c := by rw [sk1 (by omega), sk1 (by omega)]; exact hc
  rw [cs, em, gd_pos (by rw [inb_nI (by omega)]; omega), hc, cc, gd_pos (by rw [inb_nI (by omega)]; omega), o13 115 c (nI m) (by decide), gd_pos (by rw [inb_nI (by omega)]; omega), cc, o13b, sh_1 ⟨m, hm⟩, show (4 : Int32) = nI 4 from rfl, nI_sb (by omega), show nI c + 1 = nI (c + 1) from nI_add c 1]
  obtain ⟨N, hN⟩ : ∃ N, N = im_setI (im_setI (im_setI M 115 c (nI m)) 116 c (nI (e - st))) 108 13 (nI (c + 1)) := ⟨_, rfl⟩
  have fN : fr (2 ^ 115 ||| 2 ^ 116 ||| 2 ^ 119) [(108, 13), (108, 19)] M N := by
    rw [hN]
    exact fr_F (by decide) (fr_I (by decide) (fr_I (by decide) fr_refl))
  have bN : BBr N L := by
    rw [hN]
    refine ⟨by rw [sk1 (by omega), sk1 (by omega), sk1 (by omega)]; exact b.1, fun i hi => by rw [sk1 (by omega), sk1 (by omega), sk1 (by omega)]; exact b.2 i hi⟩
  have n13 : im_i N 108 13 = nI (c + 1) := by rw [hN]; exact hit
  rw [← hN]
  clear hN
  have cb : cbS g m ≤ 16 := (tb_cb ⟨g, hg⟩ ⟨m, hm⟩).2.1
  apply bd1_mk
  refine ed_mono (s_layB bN (by omega) (by omega)) ?_
  rintro M1 ⟨b1, f1⟩
  have rl : f_MSquareRows_lengthBits (nI m) (nI g) M1 = some (nI (cbS g m)) := rf_lb ⟨g, hg⟩ ⟨m, hm⟩
  rw [rl, bd1_s]
  apply bd1_mk
  refine ed_mono (s_layB b1 (by rw [List.length_append, nB_l]; omega) (by omega)) ?_
  rintro M3 ⟨b3, f3⟩
  have f13 := fr_tr f3 f1
  have q3 : TQ M3 n t := TQ_fr f13 (by decide +kernel) (TQ_fr fN (by decide +kernel) q)
  apply bd1_mk
  refine ed_mono (s_partsR q3 hm ⟨by omega, by omega⟩ hy b3 (by rw [List.length_append, List.length_append, nB_l, nB_l]; omega)) ?_
  rintro M31 ⟨b31, f31⟩
  have fa := fr_tr f31 f13
  refine ed_mk ⟨?_, by rw [fa.1 108 13 (by decide) (by decide)]; exact n13, fr_tr (fr_mono (by decide) (by decide) fa) fN⟩
  unfold sgB
  rw [List.append_assoc, List.append_assoc] at b31
  exact b31
theorem sg_jump {md t : Nat → Nat} {n g p e : Nat} (h : (sgC md t n g p).2 = p) (hp : p < e) (hen : e ≤ n) (hj : ∀ j, p < j → j < e → md j = md p) (he : e = n ∨ ¬ md e = md p) : sgC md t n g e = ((sgC md t n g p).1 ++ sgB t g (md p) p e, e) := by
  have stay : ∀ d, p + d < e → sgC md t n g (p + d) = sgC md t n g p := by
    intro d
    induction d with
    | zero => intro _; rfl
    | succ d ih =>
      intro hd
      have := ih (by omega)
      show (if p + d + 1 = n ∨ ¬ md (p + d + 1) = md (sgC md t n g (p + d)).2 then _ else sgC md t n g (p + d)) = _
      rw [this, h, if_neg (fun z => by
        rcases z with z | z
        · omega
        · exact z (hj (p + d + 1) (by omega) (by omega)))]
  obtain ⟨d, rfl⟩ : ∃ d, e = p + d + 1 := ⟨e - p - 1, by omega⟩
  have s := stay d (by omega)
  show (if p + d + 1 = n ∨ ¬ md (p + d + 1) = md (sgC md t n g (p + d)).2 then ((sgC md t n g (p + d)).1 ++ sgB t g (md (sgC md t n g (p + d)).2) (sgC md t n g (p + d)).2 (p + d + 1), p + d + 1) else sgC md t n g (p + d)) = _
  rw [s, h, if_pos he]
theorem byL_z {L : List Bool} {w i : Nat} : ∀ k, byL (L ++ nBk 0 w k) i = byL L i := by
  intro k
  induction k with
  | zero => show byL (L ++ []) i = _; rw [List.append_nil]
  | succ k ih => rw [nBk_s, ← List.append_assoc, Nat.zero_testBit, byL_f, ih]
theorem gd_app {L K : List Bool} {j : Nat} : (L ++ K).getD j false = if j < L.length then L.getD j false else K.getD (j - L.length) false := by
  by_cases c : j < L.length
  · rw [if_pos c, List.getD_eq_getElem?_getD, List.getD_eq_getElem?_getD, List.getElem?_append_left c]
  · rw [if_neg c, List.getD_eq_getElem?_getD, List.getD_eq_getElem?_getD, List.getElem?_append_right (by omega)]
theorem nB_gd {v w j : Nat} (h : j < w) : (nB v w).getD j false = v.testBit (w - 1 - j) := by
  unfold nB nBk
  rw [List.getD_eq_getElem?_getD, List.getElem?_map, List.getElem?_range h]
  rfl
theorem byL_app8 {L : List Bool} {x i j : Nat} (h : L.length = 8 * i) (hx : x < 256) : byL (L ++ nB x 8) j = if j = i then x else byL L j := by
  by_cases c : j = i
  · rw [if_pos c]
    subst c
    refine by_eq byL_lt hx fun k hk => ?_
    rw [byL_bit hk, gd_app, if_neg (by omega), nB_gd (by omega)]
    congr 1
    omega
  · rw [if_neg c]
    refine by_eq byL_lt byL_lt fun k hk => ?_
    rw [byL_bit hk, byL_bit hk, gd_app]
    by_cases d : 8 * j + (7 - k) < L.length
    · rw [if_pos d]
    · rw [if_neg d, List.getD_eq_getElem?_getD, List.getElem?_eq_none (by rw [nB_l]; omega), List.getD_eq_getElem?_getD, List.getElem?_eq_none (by omega)]
theorem s_layAll {M : im_M} {n v l : Nat} {t : Nat → Nat} (q : TQ M n t) (qt : TBR M) (hv : 1 ≤ v ∧ v ≤ 40) (hl : l < 4) (hfit : TK t n (gp v) n 6 ≤ 8 * HO v l) (hmd : ∀ i, i < n → im_i M 117 i = nI (mdS t n (gp v) i)) : ed (f_MSquareRows_layAll (nI v) (nI l) M) (fun R => (∀ i, i < HO v l → im_i R 119 i = nI (DTb (sgC (mdS t n (gp v)) t n (gp v) n).1 (HO v l) i)) ∧ fr (2 ^ 115 ||| 2 ^ 116 ||| 2 ^ 119) [(108, 13), (108, 19)] M R) := by
  have hg := gp_3 (v := v)
  have hn := q.2.1
  have hh : HO v l ≤ 2956 := (tb_hold ⟨v, by omega⟩ ⟨l, hl⟩ hv.1).2.1
  have sl := sg_len (t := t) (n := n) hg
  unfold f_MSquareRows_layAll
  apply bd1_mk
  refine ed_mono (lp_inv (fun m (s : Int32 × im_M) => ∃ i : Nat, i + m = 3800 ∧ s.1 = nI i ∧ (∀ j, j < i → im_i s.2 119 j = 0) ∧ fr (2 ^ 119) [] M s.2) (Q := fun R => (∀ j, j < 3800 → im_i R 119 j = 0) ∧ fr (2 ^ 119) [] M R) ?_ (k := 3800) ⟨0, by omega, rfl, fun j hj => absurd hj (Nat.not_lt_zero _), fr_refl⟩) ?_
  · rintro m ⟨x4, M5⟩ ⟨i, hi, e1, e2, hf⟩
    replace e1 : x4 = nI i := e1
    replace e2 : ∀ j, j < i → im_i M5 119 j = 0 := e2
    replace hf : fr (2 ^ 119) [] M M5 := hf
    subst e1
    show ed (f_MSquareRows_layAll_L2 (nI v) (nI l) (nI i) M5) _
    unfold f_MSquareRows_layAll_L2
    have k0 : ((3800 : Int32) ≤ nI i) = (3800 ≤ i) := nIl (x := 3800) (by omega) (by omega)
    simp only [k0]
    by_cases c : 3800 ≤ i
    · rw [if_pos c]
      exact lpo_r ⟨fun j hj => e2 j (by omega), hf⟩
    · rw [if_neg c, gd_pos (by rw [inb_nI (by omega)]; omega), nI_clamp (by omega)]
      refine lpo_l (m - 1) (by omega) ⟨i + 1, by omega, nI_add i 1, fun j hj => ?_, fr_I (by decide) hf⟩
      show im_i (im_setI M5 119 i _) 119 j = 0
      by_cases e : j = i
      · subst e; exact hit
      · rw [sk1 (fun z => e z.2)]; exact e2 j (by omega)
  · rintro M6 ⟨z6, f6⟩
    have f7 : fr (2 ^ 115 ||| 2 ^ 116 ||| 2 ^ 119) [(108, 13), (108, 19)] M (im_setI (im_setI M6 108 19 0) 108 13 0) := fr_F (by decide) (fr_F (by decide) (fr_mono (by decide) (by simp) f6))
    have by0 : ∀ i, byL [] i = 0 := fun i => rfl
    have b7 : BBr (im_setI (im_setI M6 108 19 0) 108 13 0) [] := ⟨by rw [sk1 (by omega)]; exact hit, fun i hi => by rw [sk1 (by omega), sk1 (by omega), z6 i hi, by0]; rfl⟩
    apply bd1_mk
    refine ed_mono (lp_inv (fun m (s : Int32 × im_M) => ∃ p c : Nat, n - p = m ∧ p ≤ n ∧ s.1 = nI p ∧ (sgC (mdS t n (gp v)) t n (gp v) p).2 = p ∧ BBr s.2 (sgC (mdS t n (gp v)) t n (gp v) p).1 ∧ im_i s.2 108 13 = nI c ∧ c ≤ p ∧ fr (2 ^ 115 ||| 2 ^ 116 ||| 2 ^ 119) [(108, 13), (108, 19)] M s.2) (Q := fun R => BBr R (sgC (mdS t n (gp v)) t n (gp v) n).1 ∧ fr (2 ^ 115 ||| 2 ^ 116 ||| 2 ^ 119) [(108, 13), (108, 19)] M R) ?_ (k := n) ⟨0, 0, by omega, by omega, rfl, rfl, b7, hit, Nat.le_refl _, f7⟩) ?_
    · rintro m ⟨x10, M11⟩ ⟨p, c, hm, hp, e1, hs2, b11, c11, cp, f11⟩
      replace e1 : x10 = nI p := e1
      replace b11 : BBr M11 (sgC (mdS t n (gp v)) t n (gp v) p).1 := b11
      replace c11 : im_i M11 108 13 = nI c := c11
      replace f11 : fr (2 ^ 115 ||| 2 ^ 116 ||| 2 ^ 119) [(108, 13), (108, 19)] M M11 := f11
      subst e1
      show ed (f_MSquareRows_layAll_L36 (nI v) (nI l) (nI p) M11) _
      unfold f_MSquareRows_layAll_L36
      have q11 := TQ_fr f11 (by decide +kernel) q
      have m11 : ∀ i, i < n → im_i M11 117 i = nI (mdS t n (gp v) i) := fun i hi => by rw [fr_c f11 117 (by decide) (by decide)]; exact hmd i hi
      rw [q11.1, if_nIl (by omega) (by omega)]
      by_cases z : n ≤ p
      · rw [if_pos z]
        obtain rfl : p = n := by omega
        exact lpo_r ⟨b11, f11⟩
      · have mp := md_lt (t := t) (n := n) (g := gp v) (i := p)
        have run : ed (lp (uc1 (f_MSquareRows_layAll_L49 (nI v) (nI l) (nI p) M11)) (nI p + 1)) (fun r => ∃ e : Nat, r = nI e ∧ p < e ∧ e ≤ n ∧ (∀ j, p < j → j < e → mdS t n (gp v) j = mdS t n (gp v) p) ∧ (e = n ∨ ¬ mdS t n (gp v) e = mdS t n (gp v) p)) := by
          rw [show nI p + 1 = nI (p + 1) from nI_add p 1]
          refine lp_inv (fun f (x : Int32) => ∃ e : Nat, e + f = n ∧ x = nI e ∧ p < e ∧ (∀ j, p < j → j < e → mdS t n (gp v) j = mdS t n (gp v) p)) ?_ (k := n - (p + 1)) ⟨p + 1, by omega, rfl, by omega, fun j h1 h2 => by omega⟩
          rintro f x16 ⟨e, he, ex, pe, hj⟩
          subst ex
          show ed (f_MSquareRows_layAll_L49 (nI v) (nI l) (nI p) M11 (nI e)) _
          unfold f_MSquareRows_layAll_L49
          rw [q11.1, if_nIl (by omega) (by omega)]
          by_cases y : n ≤ e
          · rw [if_pos y]
            exact lpo_r ⟨e, rfl, pe, by omega, hj, Or.inl (by omega)⟩
          · have me := md_lt (t := t) (n := n) (g := gp v) (i := e)
            have km : (nI (mdS t n (gp v) e) = nI (mdS t n (gp v) p)) = (mdS t n (gp v) e = mdS t n (gp v) p) := nIe (by omega) (by omega)
            rw [if_neg y, gd_pos (by rw [inb_nI (by omega)]; omega), gd_pos (by rw [inb_nI (by omega)]; omega), nI_clamp (by omega), nI_clamp (by omega), m11 e (by omega), m11 p (by omega)]
            simp only [km]
            by_cases w : mdS t n (gp v) e = mdS t n (gp v) p
            · rw [if_neg (fun y => y w)]
              refine lpo_l (f - 1) (by omega) ⟨e + 1, by omega, nI_add e 1, by omega, fun j h1 h2 => ?_⟩
              by_cases u : j = e
              · rw [u]; exact w
              · exact hj j h1 (by omega)
            · rw [if_pos w]
              exact lpo_r ⟨e, rfl, pe, by omega, hj, Or.inr w⟩
        obtain ⟨r, hr, e, rfl, pe, en, hj, he⟩ := run
        have jump := sg_jump hs2 pe en hj he
        have mono := sg_mono (md := mdS t n (gp v)) (t := t) (n := n) (g := gp v) (n - e) e
        rw [show e + (n - e) = n by omega, sl, jump, List.length_append, sgB_l mp] at mono
        rw [if_neg z, hr, bd1_s, s_rank hv.2, bd1_s]
        apply bd1_mk
        refine ed_mono (s_laySegment q11 hg mp (m11 p (by omega)) ⟨pe, en⟩ (fun j h1 h2 => ?_) b11 c11 (by omega) (by omega)) ?_
        · have same : mdS t n (gp v) j = mdS t n (gp v) p := by
            by_cases y : j = p
            · rw [y]
            · exact hj j (by omega) h2
          rw [← same]
          exact md_may
        · rintro M20 ⟨b20, c20, f20⟩
          refine lpo_l (n - e) (by omega) ⟨e, c + 1, rfl, en, rfl, by rw [jump], by rw [jump]; exact b20, c20, by omega, fr_tr f20 f11⟩
    · rintro M21 ⟨b21, f21⟩
      have hL : (sgC (mdS t n (gp v)) t n (gp v) n).1.length ≤ 8 * HO v l := by rw [sl]; exact hfit
      generalize (sgC (mdS t n (gp v)) t n (gp v) n).1 = L at *
      rw [s_holdsR (TBR_fr f21 (by decide +kernel) qt) hv hl, bd1_s]
      generalize HO v l = h at *
      have e8 : (8 : Int32) * nI h = nI (8 * h) := nI_m 8
      have k4 : ((4 : Int32) ≤ nI (8 * h - L.length)) = (4 ≤ 8 * h - L.length) := nIl (x := 4) (by omega) (by omega)
      have e4 : ((if (4 : Int32) ≤ nI (8 * h - L.length) then 4 else nI (8 * h - L.length)) : Int32) = nI (min 4 (8 * h - L.length)) := by
        simp only [k4]
        by_cases z : 4 ≤ 8 * h - L.length
        · rw [if_pos z, Nat.min_eq_left z]; rfl
        · rw [if_neg z, Nat.min_eq_right (by omega)]
      have ae : aP L.length h * 8 = (L.length + min 4 (8 * h - L.length) + 7) / 8 * 8 := by unfold aP; omega
      have ah : aP L.length h ≤ h := by unfold aP; omega
      rw [e8, b21.1, nI_sb hL, e4, show (0 : Int32) = nI 0 from rfl]
      apply bd1_mk
      refine ed_mono (s_layB b21 (by omega) (by omega)) ?_
      rintro M24 ⟨b24, f24⟩
      apply bd1_mk
      refine ed_mono (lp_inv (fun m (s : im_M) => ∃ L2 : List Bool, L2.length + m = 8 * aP L.length h ∧ L.length + min 4 (8 * h - L.length) ≤ L2.length ∧ (∀ i, byL L2 i = byL L i) ∧ BBr s L2 ∧ fr (2 ^ 115 ||| 2 ^ 116 ||| 2 ^ 119) [(108, 13), (108, 19)] M s) (Q := fun R => ∃ L2 : List Bool, L2.length = 8 * aP L.length h ∧ (∀ i, byL L2 i = byL L i) ∧ BBr R L2 ∧ fr (2 ^ 115 ||| 2 ^ 116 ||| 2 ^ 119) [(108, 13), (108, 19)] M R) ?_ (k := 8 * aP L.length h - (L.length + min 4 (8 * h - L.length))) ⟨L ++ nB 0 (min 4 (8 * h - L.length)), by rw [List.length_append, nB_l]; omega, by rw [List.length_append, nB_l]; omega, fun i => byL_z _, b24, fr_tr (fr_mono (by decide) (by decide) f24) f21⟩) ?_
      · rintro m M27 ⟨L2, l2, l3, y2, b27, f27⟩
        show ed (f_MSquareRows_layAll_L135 (nI (8 * h)) M27) _
        unfold f_MSquareRows_layAll_L135
        have r8 : nI L2.length - nI L2.length / 8 * 8 = nI (L2.length % 8) := nI_rem (b := 8) (by omega) (by omega) (by omega)
        have kz : (nI (L2.length % 8) = 0) = (L2.length % 8 = 0) := nIe (c := 0) (by omega) (by omega)
        rw [b27.1, r8]
        simp only [kz]
        by_cases z : L2.length % 8 = 0
        · rw [if_pos z]
          exact lpo_r ⟨L2, by omega, y2, b27, f27⟩
        · rw [if_neg z]
          refine lpo_l (m - 1) (by omega) ⟨L2 ++ [false], by rw [List.length_append, List.length_singleton]; omega, by rw [List.length_append]; omega, fun i => by rw [byL_f]; exact y2 i, ⟨?_, fun i hi => ?_⟩, fr_F (by decide) f27⟩
          · rw [hit, List.length_append]
            exact nI_add L2.length 1
          · rw [sk1 (by omega), byL_f]
            exact b27.2 i hi
      · rintro M28 ⟨L2, l2, y2, b28, f28⟩
        apply bd1_mk
        refine ed_mono (lp_inv (fun m (s : Int32 × im_M) => ∃ (i : Nat) (L3 : List Bool), i + m = h ∧ aP L.length h ≤ i ∧ L3.length = 8 * i ∧ s.1 = (if (i - aP L.length h) % 2 = 0 then 1 else 0) ∧ (∀ j, j < i → byL L3 j = DTb L h j) ∧ BBr s.2 L3 ∧ fr (2 ^ 115 ||| 2 ^ 116 ||| 2 ^ 119) [(108, 13), (108, 19)] M s.2) (Q := fun R => (∀ i, i < h → im_i R 119 i = nI (DTb L h i)) ∧ fr (2 ^ 115 ||| 2 ^ 116 ||| 2 ^ 119) [(108, 13), (108, 19)] M R) ?_ (k := h - aP L.length h) ⟨aP L.length h, L2, by omega, Nat.le_refl _, l2, by rw [Nat.sub_self]; rfl, fun j hj => by unfold DTb; rw [if_pos hj]; exact y2 j, b28, f28⟩) (fun R h => ed_mk h)
        rintro m ⟨x31, M32⟩ ⟨i, L3, hi, ai, l3, e1, d3, b32, f32⟩
        replace e1 : x31 = (if (i - aP L.length h) % 2 = 0 then 1 else 0) := e1
        replace b32 : BBr M32 L3 := b32
        replace f32 : fr (2 ^ 115 ||| 2 ^ 116 ||| 2 ^ 119) [(108, 13), (108, 19)] M M32 := f32
        subst e1
        show ed (f_MSquareRows_layAll_L161 (nI (8 * h)) (if (i - aP L.length h) % 2 = 0 then 1 else 0) M32) _
        unfold f_MSquareRows_layAll_L161
        rw [b32.1, l3, if_nIl (by omega) (by omega)]
        by_cases z : 8 * h ≤ 8 * i
        · rw [if_pos z]
          refine lpo_r ⟨fun j hj => ?_, f32⟩
          rw [b32.2 j (by omega), d3 j (by omega)]
        · obtain ⟨x, hx⟩ : ∃ x : Nat, x = if (i - aP L.length h) % 2 = 0 then 236 else 17 := ⟨_, rfl⟩
          have x2 : x < 256 := by rw [hx]; split <;> omega
          have ex : ((if (if (i - aP L.length h) % 2 = 0 then (1 : Int32) else 0) = 0 then 17 else 236) : Int32) = nI x := by
            rw [hx]
            by_cases y : (i - aP L.length h) % 2 = 0
            · rw [if_pos y, if_pos y]; decide
            · rw [if_neg y, if_neg y]; decide
          have ef : ((if ¬ (if (i - aP L.length h) % 2 = 0 then (1 : Int32) else 0) = 0 then 0 else 1) : Int32) = if (i + 1 - aP L.length h) % 2 = 0 then 1 else 0 := by
            by_cases y : (i - aP L.length h) % 2 = 0
            · rw [if_pos y, if_neg (show ¬ (i + 1 - aP L.length h) % 2 = 0 by omega)]; decide
            · rw [if_neg y, if_pos (show (i + 1 - aP L.length h) % 2 = 0 by omega)]; decide
          rw [if_neg z, ex, ef, show (8 : Int32) = nI 8 from rfl]
          apply bd1_mk
          refine ed_mono (s_layB b32 (by omega) (by omega)) ?_
          rintro M34 ⟨b34, f34⟩
          refine lpo_l (m - 1) (by omega) ⟨i + 1, L3 ++ nB x 8, by omega, by omega, by rw [List.length_append, nB_l]; omega, rfl, fun j hj => ?_, b34, fr_tr (fr_mono (by decide) (by decide) f34) f32⟩
          rw [byL_app8 l3 x2]
          by_cases y : j = i
          · rw [if_pos y, hx]
            unfold DTb
            rw [y, if_neg (show ¬ i < aP L.length h by omega)]
          · rw [if_neg y]
            exact d3 j (by omega)
