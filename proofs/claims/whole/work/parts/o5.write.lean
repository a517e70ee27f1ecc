/-! SEGMENTS, WRITTEN BY THE CLASS -/
theorem may_sg {m b : Nat} (hm : m < 2) (hb : b < 256) (h : mayB m b = true) : sgN b = some ((sgN b).getD 0) ∧ (sgN b).getD 0 < 45 ∧ (m = 0 → 48 ≤ b ∧ (sgN b).getD 0 = b - 48) := by
  obtain ⟨a1, a2⟩ := sg_t ⟨b, hb⟩
  replace a1 : ∀ c, sgN b = some c → c < 45 := a1
  replace a2 : 48 ≤ b ∧ b ≤ 57 → sgN b = some (b - 48) := a2
  unfold mayB at h
  rw [if_neg (by omega)] at h
  by_cases c : m = 0
  · rw [if_pos c, Bool.and_eq_true, decide_eq_true_eq, decide_eq_true_eq] at h
    have e := a2 h
    rw [e]
    exact ⟨rfl, a1 _ e, fun _ => ⟨h.1, rfl⟩⟩
  · rw [if_neg c] at h
    obtain ⟨d, hd⟩ := Option.isSome_iff_exists.mp h
    rw [hd]
    exact ⟨rfl, a1 d hd, fun z => absurd z c⟩
theorem s_partC {M : im_M} {k n m p c : Nat} {t : Nat → Nat} {e1 e2 : Int32} (ho : OCl M k n t) (hm : m < 3) (hp : p + c ≤ n) (hy : ∀ j, p ≤ j → j < p + c → mayB m (t j) = true) : lp (uc2 (f_HSegments_writeBytes_L33 e1 (nI m) e2 (nI (200 * k + p)) (nI c) M)) (0, nI (200 * k + p)) = some (nI (vlP m t p c)) := by
  obtain ⟨h0, hn, h2, h3⟩ := ho
  have k2 : (nI m = 2) = (m = 2) := nIe (c := 2) (by omega) (by omega)
  refine lp_row (fun i => (nI (vlP m t p i), nI (200 * k + p + i))) c (fun i hi => ?_) ?_
  · show f_HSegments_writeBytes_L33 e1 (nI m) e2 (nI (200 * k + p)) (nI c) M (nI (vlP m t p i)) (nI (200 * k + p + i)) = some (Sum.inl (nI (vlP m t p (i + 1)), nI (200 * k + p + (i + 1))))
    unfold f_HSegments_writeBytes_L33
    obtain ⟨b1, b2⟩ := h3 (p + i) (by omega)
    rw [nI_add, if_nIl (by omega) (by omega), if_neg (by omega), gd_pos (by rw [inb_nI (by omega)]; omega), nI_clamp (by omega), show 200 * k + p + i = 200 * k + (p + i) by omega, b2]
    simp only [k2]
    have e : (if ¬ m = 2 then bd1 (f_HSegments_base (nI m) M) fun (x18 : Int32) => bd1 (f_String_indexOf_1 (((Int32.toUInt32 (nI (t (p + i)))) % 65536).toInt32) M) fun (x19 : Int32) => some ((nI (vlP m t p i) * x18) + x19) else some (nI (t (p + i)))) = some (nI (vlP m t p (i + 1))) := by
      show _ = some (nI (if m = 2 then t (p + i) else vlP m t p i * bsM m + (sgN (t (p + i))).getD 0))
      by_cases z : m = 2
      · rw [if_neg (fun y => y z), if_pos z]
      · have bs : f_HSegments_base (nI m) M = some (nI (bsM m)) := by
          unfold f_HSegments_base bsM
          have k0 : (nI m = 0) = (m = 0) := nIe (c := 0) (by omega) (by omega)
          simp only [k0]
          by_cases y : m = 0
          · rw [if_neg (fun w => w y), if_pos y]; rfl
          · rw [if_pos y, if_neg y]; rfl
        obtain ⟨s1, s2, _⟩ := may_sg (show m < 2 by omega) b1 (hy (p + i) (by omega) (by omega))
        rw [if_pos z, if_neg z, bs, bd1_s, s_indexOf1 b1, bd1_s, s1]
        show some (nI (vlP m t p i) * nI (bsM m) + nI ((sgN (t (p + i))).getD 0)) = _
        rw [nI_mul, nI_add]
        rfl
    rw [e, bd1_s]
    exact congrArg (fun z => some (Sum.inl (_, z))) (show nI (200 * k + (p + i)) + 1 = nI (200 * k + p + (i + 1)) from by rw [show 200 * k + p + (i + 1) = 200 * k + (p + i) + 1 by omega]; exact nI_add _ 1)
  · show f_HSegments_writeBytes_L33 e1 (nI m) e2 (nI (200 * k + p)) (nI c) M (nI (vlP m t p c)) (nI (200 * k + p + c)) = _
    unfold f_HSegments_writeBytes_L33
    rw [nI_add, if_nIl (by omega) (by omega), if_pos (by omega)]
theorem pbW_b {m c : Nat} (h : c ≤ 3) : pbW m c ≤ 16 := by
  unfold pbW
  split
  · omega
  · split <;> omega
theorem s_partBits {M : im_M} {m c : Nat} (hm : m < 3) : f_HSegments_partBits (nI m) (nI c) M = some (nI (pbW m c)) := by
  unfold f_HSegments_partBits pbW
  have k0 : (nI m = 0) = (m = 0) := nIe (c := 0) (by omega) (by omega)
  have k1 : (nI m = 1) = (m = 1) := nIe (c := 1) (by omega) (by omega)
  simp only [k0, k1]
  by_cases a : m = 0
  · rw [if_neg (fun z => z a), if_pos a, nI_m]
    exact congrArg some (nI_add (3 * c) 1)
  · rw [if_pos a, if_neg a]
    by_cases b : m = 1
    · rw [if_neg (fun z => z b), if_pos b, nI_m]
      exact congrArg some (nI_add (5 * c) 1)
    · rw [if_pos b, if_neg b]
      rfl
theorem s_writeBytes {M : im_M} {k n m st e h : Nat} {t : Nat → Nat} {L : List Bool} (ho : OCl M k n t) (hm : m < 3) (he : st ≤ e ∧ e ≤ n) (hy : ∀ j, st ≤ j → j < e → mayB m (t j) = true) (q : BBc M h L) (hh : h ≤ 2956) (hl : L.length + plen m (e - st) ≤ 8 * h) : ed (f_HSegments_writeBytes (nI (200 * k + st)) (nI (200 * k + e)) (nI m) M) (fun R => BBc R h (L ++ ptB m t e (e - st) st) ∧ fr (2 ^ 40) [(39, 5)] M R) := by
  have hn := ho.2.1
  have hk := ho.1
  have e3 : (3 : Int32) - nI m = nI (3 - m) := nI_sb (a := 3) (by omega)
  unfold f_HSegments_writeBytes
  rw [e3]
  apply bd1_mk
  refine ed_mono (lp_inv (fun f (s : Int32 × im_M) => ∃ (p : Nat) (L2 : List Bool), st ≤ p ∧ e - p ≤ f ∧ p ≤ e + 3 ∧ s.1 = nI (200 * k + p) ∧ L2 ++ ptB m t e f p = L ++ ptB m t e (e - st) st ∧ BBc s.2 h L2 ∧ fr (2 ^ 40) [(39, 5)] M s.2) (Q := fun R => BBc R h (L ++ ptB m t e (e - st) st) ∧ fr (2 ^ 40) [(39, 5)] M R) ?_ (k := e - st) ⟨st, L, Nat.le_refl _, Nat.le_refl _, by omega, rfl, rfl, q, fr_refl⟩) (fun R h => ed_mk h)
  rintro f ⟨x5, M6⟩ ⟨p, L2, p1, p2, p3, e1, eL, b6, f6⟩
  replace e1 : x5 = nI (200 * k + p) := e1
  replace b6 : BBc M6 h L2 := b6
  replace f6 : fr (2 ^ 40) [(39, 5)] M M6 := f6
  subst e1
  show ed (f_HSegments_writeBytes_L9 (nI (200 * k + e)) (nI m) (nI (3 - m)) (nI (200 * k + p)) M6) _
  unfold f_HSegments_writeBytes_L9
  rw [if_nIl (by omega) (by omega)]
  by_cases c : 200 * k + e ≤ 200 * k + p
  · rw [if_pos c]
    have z : ptB m t e f p = [] := by
      cases f with
      | zero => rfl
      | succ f => unfold ptB; rw [if_neg (by omega)]
    rw [z, List.append_nil] at eL
    rw [← eL]
    exact lpo_r ⟨b6, f6⟩
  · obtain ⟨f, rfl⟩ : ∃ f', f = f' + 1 := ⟨f - 1, by omega⟩
    have un : ptB m t e (f + 1) p = nB (vlP m t p (min (3 - m) (e - p))) (pbW m (min (3 - m) (e - p))) ++ ptB m t e f (p + (3 - m)) := by
      show (if p < e then _ else _) = _
      rw [if_pos (by omega)]
    have o6 := OCl_fr f6 (by decide +kernel) ho
    have lt : (L2 ++ ptB m t e (f + 1) p).length ≤ 8 * h := by
      rw [eL, List.length_append, ptB_l hm _ _ (Nat.le_refl _)]
      exact hl
    rw [un, List.length_append, List.length_append, nB_l] at lt
    rw [if_neg c, nI_sb (by omega), show 200 * k + e - (200 * k + p) = e - p by omega, m_minN (by omega) (by omega), bd1_s, s_partC o6 hm (by omega) (fun j h1 h2 => hy j (by omega) (by omega)), bd1_s, s_partBits hm, bd1_s]
    apply bd1_mk
    refine ed_mono (s_put b6 hh (by omega) (by have := pbW_b (m := m) (c := min (3 - m) (e - p)) (by omega); omega)) ?_
    rintro M31 ⟨b31, f31⟩
    rw [nI_add]
    refine lpo_l f (by omega) ⟨p + (3 - m), _, by omega, by omega, by omega, by rw [Nat.add_assoc], ?_, b31, fr_tr f31 f6⟩
    rw [← eL, un, List.append_assoc]
theorem sh_1 : ∀ m : Fin 3, ((1 : Int32) <<< (nI m.val &&& 31 : Int32) : Int32) = nI (2 ^ m.val) := by decide +kernel
theorem s_writeC {M : im_M} {k n v l : Nat} {t : Nat → Nat} (ho : OCl M k n t) (hv : 1 ≤ v ∧ v ≤ 40) (hl : l < 4) (hfit : TK t n (gp v) n 6 ≤ 8 * HO v l) (hmd : ∀ i, i < n → im_i M 42 i = nI (mdS t n (gp v) i)) : ed (f_HSegments_write (nI (200 * k)) (nI n) (nI v) (nI (HO v l)) M) (fun R => (∀ i, i < HO v l → im_i R 40 i &&& 255 = nI (DTb (sgC (mdS t n (gp v)) t n (gp v) n).1 (HO v l) i)) ∧ fr (2 ^ 40) [(39, 5)] M R) := by
  have hg := gp_3 (v := v)
  have hn := ho.2.1
  have hk := ho.1
  have hh : HO v l ≤ 2956 := (tb_hold ⟨v, by omega⟩ ⟨l, hl⟩ hv.1).2.1
  generalize HO v l = h at *
  obtain ⟨g, hgg⟩ : ∃ g, g = gp v := ⟨_, rfl⟩
  have sl := sg_len (t := t) (n := n) hg
  rw [← hgg] at hfit hmd hg sl ⊢
  unfold f_HSegments_write f_Arrays_fill3 f_Arrays_rangeCheck
  have c1 : (0 : Int32) ≤ nI h := by rw [show (0 : Int32) = nI 0 from rfl, nIl (by omega) (by omega)]; omega
  have c3 : nI h ≤ 2956 := by rw [show (2956 : Int32) = nI 2956 from rfl, nIl (by omega) (by omega)]; omega
  rw [if_pos c1, if_pos (show (0 : Int32) ≤ 0 by decide), if_pos c3]
  apply bd1_mk
  show ed (bd1 (lp (uc2 (f_Arrays_fill3_L10 (nI h) 0)) (0, M)) fun (M7 : im_M) => some M7) _
  apply bd1_mk
  refine ed_mono (lp_inv (fun m (s : Int32 × im_M) => ∃ i : Nat, i + m = h ∧ s.1 = nI i ∧ (∀ j, j < i → im_i s.2 40 j = 0) ∧ fr (2 ^ 40) [] M s.2) (Q := fun R => (∀ j, j < h → im_i R 40 j = 0) ∧ fr (2 ^ 40) [] M R) ?_ (k := h) ⟨0, by omega, rfl, fun j hj => absurd hj (Nat.not_lt_zero _), fr_refl⟩) ?_
  · rintro m ⟨x5, M6⟩ ⟨i, hi, e1, e2, hf⟩
    replace e1 : x5 = nI i := e1
    replace e2 : ∀ j, j < i → im_i M6 40 j = 0 := e2
    replace hf : fr (2 ^ 40) [] M M6 := hf
    subst e1
    show ed (f_Arrays_fill3_L10 (nI h) 0 (nI i) M6) _
    unfold f_Arrays_fill3_L10
    rw [if_nIl (by omega) (by omega)]
    by_cases c : h ≤ i
    · rw [if_pos c]
      obtain rfl : i = h := by omega
      exact lpo_r ⟨e2, hf⟩
    · rw [if_neg c, gd_pos (by rw [inb_nI (by omega)]; omega), nI_clamp (by omega)]
      refine lpo_l (m - 1) (by omega) ⟨i + 1, by omega, nI_add i 1, fun j hj => ?_, fr_I (by decide) hf⟩
      show im_i (im_setI M6 40 i _) 40 j = 0
      by_cases e : j = i
      · subst e; rw [hit]; rfl
      · rw [sk1 (fun z => e z.2)]; exact e2 j (by omega)
  · rintro M1 ⟨z1, f1⟩
    refine ed_mk ?_
    have f2 : fr (2 ^ 40) [(39, 5)] M (im_setI M1 39 5 0) := fr_F (by decide) (fr_mono (by decide) (by simp) f1)
    have by0 : ∀ i, byL [] i = 0 := fun i => rfl
    have b2 : BBc (im_setI M1 39 5 0) h [] := ⟨hit, fun i hi => by rw [sk1 (by omega), z1 i hi, by0]; rfl⟩
    apply bd1_mk
    refine ed_mono (lp_inv (fun f (s : Int32 × Int32 × im_M) => ∃ i : Nat, i + f = n ∧ s.1 = nI (sgC (mdS t n g) t n g i).2 ∧ s.2.1 = nI (i + 1) ∧ BBc s.2.2 h (sgC (mdS t n g) t n g i).1 ∧ fr (2 ^ 40) [(39, 5)] M s.2.2) (Q := fun R => BBc R h (sgC (mdS t n g) t n g n).1 ∧ fr (2 ^ 40) [(39, 5)] M R) ?_ (k := n) ⟨0, by omega, rfl, rfl, b2, f2⟩) ?_
    · rintro f ⟨x7, x8, M9⟩ ⟨i, hi, e1, e2, b9, f9⟩
      replace e1 : x7 = nI (sgC (mdS t n g) t n g i).2 := e1
      replace e2 : x8 = nI (i + 1) := e2
      replace b9 : BBc M9 h (sgC (mdS t n g) t n g i).1 := b9
      replace f9 : fr (2 ^ 40) [(39, 5)] M M9 := f9
      subst e1 e2
      show ed (f_HSegments_write_L22 (nI (200 * k)) (nI n) (nI v) (nI h) (nI (sgC (mdS t n g) t n g i).2) (nI (i + 1)) M9) _
      unfold f_HSegments_write_L22
      rw [if_nIlt (by omega) (by omega)]
      by_cases c : n < i + 1
      · rw [if_pos c]
        obtain rfl : i = n := by omega
        exact lpo_r ⟨b9, f9⟩
      · obtain ⟨a1, a2, a3, _, a4⟩ := sg_inv (t := t) (n := n) hg i (by omega)
        have un : sgC (mdS t n g) t n g (i + 1) = if i + 1 = n ∨ ¬ mdS t n g (i + 1) = mdS t n g (sgC (mdS t n g) t n g i).2 then ((sgC (mdS t n g) t n g i).1 ++ sgB t g (mdS t n g (sgC (mdS t n g) t n g i).2) (sgC (mdS t n g) t n g i).2 (i + 1), i + 1) else sgC (mdS t n g) t n g i := rfl
        have mono := sg_mono (md := mdS t n g) (t := t) (n := n) (g := g) (n - (i + 1)) (i + 1)
        rw [show i + 1 + (n - (i + 1)) = n by omega, sl, un] at mono
        rw [if_neg c]
        generalize hx : sgC (mdS t n g) t n g i = x at *
        obtain ⟨L, p⟩ := x
        replace a1 : p ≤ i := a1
        replace a4 : p < i → mdS t n g i = mdS t n g p ∧ (∀ j, p ≤ j → j < i → mdS t n g j = mdS t n g p) ∧ _ := a4
        replace b9 : BBc M9 h L := b9
        have m9 : ∀ j, j < n → im_i M9 42 j = nI (mdS t n g j) := fun j hj => by rw [fr_c f9 42 (by decide) (by decide)]; exact hmd j hj
        have ml := md_lt (t := t) (n := n) (g := g) (i := p)
        have el : (sgC (mdS t n g) t n g (i + 1)).2 = (if i + 1 = n ∨ ¬ mdS t n g (i + 1) = mdS t n g p then i + 1 else p) := by
          rw [un]
          split <;> rfl
        apply bd2_mk
        refine ed_mono (P := fun (r : Int32 × im_M) => r.1 = nI (sgC (mdS t n g) t n g (i + 1)).2 ∧ BBc r.2 h (sgC (mdS t n g) t n g (i + 1)).1 ∧ fr (2 ^ 40) [(39, 5)] M r.2) ?_ ?_
        · have cl : (i + 1 = n ∨ ¬ mdS t n g (i + 1) = mdS t n g p) → ed (gd (inb (nI p) 200) <| bd1 (f_HSegments_put ((1 : Int32) <<< ((im_i M9 42 (Int32.toNatClampNeg (nI p))) &&& 31 : Int32) : Int32) 4 M9) fun (M20 : im_M) => bd1 (f_HSegments_groupOf (nI v) M20) fun (x21 : Int32) => gd (inb (((3 : Int32) * x21) + (im_i M9 42 (Int32.toNatClampNeg (nI p)))) 9) <| bd1 (f_HSegments_put (nI (i + 1) - nI p) (xa_9 (((3 : Int32) * x21) + (im_i M9 42 (Int32.toNatClampNeg (nI p))))) M20) fun (M22 : im_M) => bd1 (f_HSegments_writeBytes (nI (200 * k) + nI p) (nI (200 * k) + nI (i + 1)) (im_i M9 42 (Int32.toNatClampNeg (nI p))) M22) fun (M23 : im_M) => some (nI (i + 1), M23)) (fun (r : Int32 × im_M) => r.1 = nI (sgC (mdS t n g) t n g (i + 1)).2 ∧ BBc r.2 h (sgC (mdS t n g) t n g (i + 1)).1 ∧ fr (2 ^ 40) [(39, 5)] M r.2) := fun z => by
            rw [if_pos z] at mono
            rw [un, if_pos z]
            have lt : (L ++ sgB t g (mdS t n g p) p (i + 1)).length ≤ 8 * h := Nat.le_trans mono hfit
            rw [List.length_append, sgB_l ml] at lt
            have cb : cbS g (mdS t n g p) ≤ 16 ∧ xa_9 (nI (3 * g + mdS t n g p)) = nI (cbS g (mdS t n g p)) := ⟨(tb_cb ⟨g, hg⟩ ⟨_, ml⟩).2.1, (tb_cb ⟨g, hg⟩ ⟨_, ml⟩).1⟩
            have e3 : (3 : Int32) * nI g + nI (mdS t n g p) = nI (3 * g + mdS t n g p) := by rw [nI_m, nI_add]
            rw [gd_pos (by rw [inb_nI (by omega)]; omega), nI_clamp (by omega), m9 p (by omega), sh_1 ⟨_, ml⟩, show (4 : Int32) = nI 4 from rfl]
            apply bd1_mk
            refine ed_mono (s_put b9 hh (by omega) (by omega)) ?_
            rintro M20 ⟨b20, f20⟩
            rw [s_groupOf hv.2, bd1_s, ← hgg, e3, gd_pos (by rw [inb_nI (by omega)]; omega), cb.2, nI_sb (by omega)]
            apply bd1_mk
            refine ed_mono (s_put b20 hh (by rw [List.length_append, nB_l]; omega) (by omega)) ?_
            rintro M22 ⟨b22, f22⟩
            have f22a := fr_tr f22 (fr_tr f20 f9)
            rw [nI_add, nI_add]
            apply bd1_mk
            refine ed_mono (s_writeBytes (OCl_fr f22a (by decide +kernel) ho) ml ⟨by omega, by omega⟩ (fun j h1 h2 => ?_) b22 hh (by rw [List.length_append, List.length_append, nB_l, nB_l]; omega)) ?_
            · have same : mdS t n g j = mdS t n g p := by
                by_cases y : p = i
                · rw [show j = p by omega]
                · obtain ⟨y1, y2, _⟩ := a4 (by omega)
                  by_cases w : j = i
                  · rw [w]; exact y1
                  · exact y2 j h1 (by omega)
              rw [← same]
              exact md_may
            · rintro M23 ⟨b23, f23⟩
              refine ed_mk ⟨rfl, ?_, fr_tr f23 f22a⟩
              show BBc M23 h (L ++ sgB t g (mdS t n g p) p (i + 1))
              unfold sgB
              rw [List.append_assoc, List.append_assoc] at b23
              exact b23
          have ke : (nI (i + 1) = nI n) = (i + 1 = n) := nIe (by omega) (by omega)
          simp only [jn0, ke]
          by_cases z : i + 1 = n
          · rw [if_pos z]
            exact cl (Or.inl z)
          · have pl : p < n := by omega
            have m1 := md_lt (t := t) (n := n) (g := g) (i := i + 1)
            have km : (nI (mdS t n g (i + 1)) = nI (mdS t n g p)) = (mdS t n g (i + 1) = mdS t n g p) := nIe (by omega) (by omega)
            rw [if_neg z, gd_pos (by rw [inb_nI (by omega)]; omega), gd_pos (by rw [inb_nI (by omega)]; omega), nI_clamp (show i + 1 < 2147483648 by omega), m9 (i + 1) (by omega)]
            have cp : Int32.toNatClampNeg (nI p) = p := nI_clamp (by omega)
            by_cases y : mdS t n g (i + 1) = mdS t n g p
            · rw [if_pos (by rw [cp, m9 p pl, y])]
              rw [un, if_neg (fun w => w.elim z (fun u => u y))]
              exact ed_mk ⟨rfl, b9, f9⟩
            · rw [if_neg (by rw [cp, m9 p pl, km]; exact y)]
              exact cl (Or.inr y)
        · rintro ⟨y24, M25⟩ ⟨r1, r2, r3⟩
          replace r1 : y24 = nI (sgC (mdS t n g) t n g (i + 1)).2 := r1
          subst r1
          exact lpo_l (f - 1) (by omega) ⟨i + 1, by omega, rfl, nI_add (i + 1) 1, r2, r3⟩
    · rintro M34 ⟨b34, f34⟩
      generalize (sgC (mdS t n g) t n g n).1 = L at *
      have e4 : nI L.length + 4 = nI (L.length + 4) := nI_add _ 4
      have e8 : (8 : Int32) * nI h = nI (8 * h) := nI_m 8
      have e7 : nI (min (L.length + 4) (8 * h)) + 7 = nI (min (L.length + 4) (8 * h) + 7) := nI_add _ 7
      have d8 : nI (min (L.length + 4) (8 * h) + 7) / 8 = nI (aP L.length h) := nI_div (b := 8) (by omega) (by omega) (by omega)
      rw [b34.1, e4, e8, m_minN (by omega) (by omega), bd1_s, e7, d8]
      have ah : aP L.length h ≤ h := by unfold aP; omega
      apply bd1_mk
      refine ed_mono (lp_inv (fun f (s : Int32 × Int32 × im_M) => ∃ i : Nat, i + f = h ∧ aP L.length h ≤ i ∧ s.1 = (if (i - aP L.length h) % 2 = 0 then 236 else 17) ∧ s.2.1 = nI i ∧ (∀ j, j < h → (j < i → im_i s.2.2 40 j &&& 255 = nI (DTb L h j))) ∧ fr (2 ^ 40) [(39, 5)] M s.2.2) (Q := fun R => (∀ j, j < h → im_i R 40 j &&& 255 = nI (DTb L h j)) ∧ fr (2 ^ 40) [(39, 5)] M R) ?_ (k := h - aP L.length h) ⟨aP L.length h, by omega, Nat.le_refl _, by rw [Nat.sub_self]; rfl, rfl, fun j h1 h2 => ?_, f34⟩) (fun R h => ed_mk h)
      · rintro f ⟨x38, x39, M40⟩ ⟨i, hi, ai, e1, e2, r, f40⟩
        replace e1 : x38 = (if (i - aP L.length h) % 2 = 0 then 236 else 17) := e1
        replace e2 : x39 = nI i := e2
        replace r : ∀ j, j < h → (j < i → im_i M40 40 j &&& 255 = nI (DTb L h j)) := r
        replace f40 : fr (2 ^ 40) [(39, 5)] M M40 := f40
        subst e1 e2
        show ed (f_HSegments_write_L144 (nI h) (if (i - aP L.length h) % 2 = 0 then 236 else 17) (nI i) M40) _
        unfold f_HSegments_write_L144
        rw [if_nIl (by omega) (by omega)]
        by_cases c : h ≤ i
        · rw [if_pos c]
          exact lpo_r ⟨fun j hj => r j hj (by omega), f40⟩
        · rw [if_neg c, gd_pos (by rw [inb_nI (by omega)]; omega), nI_clamp (by omega)]
          refine lpo_l (f - 1) (by omega) ⟨i + 1, by omega, by omega, ?_, nI_add i 1, fun j h1 h2 => ?_, fr_I (by decide) f40⟩
          · show (if (i - aP L.length h) % 2 = 0 then (236 : Int32) else 17) ^^^ 253 = _
            by_cases y : (i - aP L.length h) % 2 = 0
            · rw [if_pos y, if_neg (by omega)]; rfl
            · rw [if_neg y, if_pos (by omega)]; rfl
          · show im_i (im_setI M40 40 i _) 40 j &&& 255 = _
            by_cases w : j = i
            · subst w
              rw [hit]
              unfold DTb
              rw [if_neg (show ¬ j < aP L.length h by omega)]
              by_cases y : (j - aP L.length h) % 2 = 0
              · rw [if_pos y, if_pos y]; decide
              · rw [if_neg y, if_neg y]; decide
            · rw [sk1 (fun z => w z.2)]
              exact r j h1 (by omega)
      · show im_i M34 40 j &&& 255 = _
        unfold DTb
        rw [if_pos h2]
        exact b34.2 j h1
theorem s_packC {M : im_M} {k n l : Nat} {t : Nat → Nat} (ho : OCl M k n t) (hl : l < 4) : ed (f_HSegments_pack (nI (200 * k)) (nI n) (nI l) M) (fun r => ∃ v, VR t n l v ∧ r.1 = nI v ∧ (∀ i, i < HO v l → im_i r.2 40 i &&& 255 = nI (DTb (sgC (mdS t n (gp v)) t n (gp v) n).1 (HO v l) i)) ∧ fr (2 ^ 40 ||| 2 ^ 41 ||| 2 ^ 42) [(39, 5)] M r.2) := by
  have hn := ho.2.1
  unfold f_HSegments_pack
  apply bs1_mk
  refine ed_mono (lp_inv (fun f (s : Int32 × Int32 × im_M) => ∃ v : Nat, v + f = 40 ∧ 1 ≤ v ∧ s.2.1 = nI v ∧ (∀ u, 1 ≤ u → u < v → 8 * HO u l < TK t n (gp u) n 6) ∧ (v ≠ 1 → s.1 = nI (TK t n (gp (v - 1)) n 6) ∧ ∀ i, i < n → im_i s.2.2 42 i = nI (mdS t n (gp (v - 1)) i)) ∧ fr (2 ^ 40 ||| 2 ^ 41 ||| 2 ^ 42) [(39, 5)] M s.2.2) (Q := fun (u : im_M ⊕ (Int32 × im_M)) => match u with
    | .inl _ => False
    | .inr r => ∃ v, VR t n l v ∧ r.1 = nI v ∧ (∀ i, i < HO v l → im_i r.2 40 i &&& 255 = nI (DTb (sgC (mdS t n (gp v)) t n (gp v) n).1 (HO v l) i)) ∧ fr (2 ^ 40 ||| 2 ^ 41 ||| 2 ^ 42) [(39, 5)] M r.2) ?_ (k := 39) ⟨1, rfl, by omega, rfl, fun u h1 h2 => by omega, fun z => absurd rfl z, fr_refl⟩) ?_
  · rintro f ⟨x5, x6, M7⟩ ⟨v, hv, v1, e2, hu, he, f7⟩
    replace e2 : x6 = nI v := e2
    replace he : v ≠ 1 → x5 = nI (TK t n (gp (v - 1)) n 6) ∧ ∀ i, i < n → im_i M7 42 i = nI (mdS t n (gp (v - 1)) i) := he
    replace f7 : fr (2 ^ 40 ||| 2 ^ 41 ||| 2 ^ 42) [(39, 5)] M M7 := f7
    subst e2
    show ed (f_HSegments_pack_L6 (nI (200 * k)) (nI n) (nI l) x5 (nI v) M7) _
    unfold f_HSegments_pack_L6
    have k40 : ((40 : Int32) < nI v) = (40 < v) := nIlt (x := 40) (by omega) (by omega)
    have k1 : (nI v = 1) = (v = 1) := nIe (c := 1) (by omega) (by omega)
    simp only [k40, k1, jn0]
    rw [if_neg (by omega)]
    apply bd2_mk
    refine ed_mono (P := fun (r : Int32 × im_M) => r.1 = nI (TK t n (gp v) n 6) ∧ (∀ i, i < n → im_i r.2 42 i = nI (mdS t n (gp v) i)) ∧ fr (2 ^ 40 ||| 2 ^ 41 ||| 2 ^ 42) [(39, 5)] M r.2) ?_ ?_
    · have pl : ed (bd1 (f_HSegments_groupOf (nI v) M7) fun (x18 : Int32) => bd2 (f_HSegments_plan (nI (200 * k)) (nI n) x18 M7) fun (x19 : Int32) (M19 : im_M) => some (x19, M19)) (fun (r : Int32 × im_M) => r.1 = nI (TK t n (gp v) n 6) ∧ (∀ i, i < n → im_i r.2 42 i = nI (mdS t n (gp v) i)) ∧ fr (2 ^ 40 ||| 2 ^ 41 ||| 2 ^ 42) [(39, 5)] M r.2) := by
        rw [s_groupOf (by omega), bd1_s]
        apply bd2_mk
        refine ed_mono (s_plan (OCl_fr f7 (by decide +kernel) ho) gp_3) ?_
        rintro ⟨x19, M19⟩ ⟨r1, r2, r3⟩
        exact ed_mk ⟨r1, r2, fr_tr (fr_mono (by decide) (by simp) r3) f7⟩
      by_cases c : v = 1
      · rw [if_pos c]
        exact pl
      · have e1 : nI v - 1 = nI (v - 1) := nI_m1 v1
        have g1 := gp_3 (v := v)
        have g2 := gp_3 (v := v - 1)
        have kg : (nI (gp v) = nI (gp (v - 1))) = (gp v = gp (v - 1)) := nIe (by omega) (by omega)
        obtain ⟨y1, y2⟩ := he c
        rw [if_neg c]
        by_cases d : gp v = gp (v - 1)
        · rw [s_groupOf (by omega), bd1_s, e1, s_groupOf (by omega), bd1_s, if_pos (by rw [d])]
          refine ed_mk ⟨?_, ?_, f7⟩
          · rw [d]; exact y1
          · rw [d]; exact y2
        · have := pl
          rw [s_groupOf (by omega), bd1_s] at this ⊢
          rw [e1, s_groupOf (by omega), bd1_s, if_neg (by rw [kg]; exact d)]
          exact this
    · rintro ⟨y20, M21⟩ ⟨r1, r2, r3⟩
      replace r1 : y20 = nI (TK t n (gp v) n 6) := r1
      replace r2 : ∀ i, i < n → im_i M21 42 i = nI (mdS t n (gp v) i) := r2
      replace r3 : fr (2 ^ 40 ||| 2 ^ 41 ||| 2 ^ 42) [(39, 5)] M M21 := r3
      subst r1
      have tb := TK_b (t := t) (n := n) (g := gp v) gp_3 n 6 (by omega)
      have hh : HO v l ≤ 2956 := (tb_hold ⟨v, by omega⟩ ⟨l, hl⟩ v1).2.1
      have e8 : (8 : Int32) * nI (HO v l) = nI (8 * HO v l) := nI_m 8
      rw [s_holdsC ⟨v1, by omega⟩ hl, bd1_s, e8, if_nIlt (by omega) (by omega)]
      by_cases c : 8 * HO v l < TK t n (gp v) n 6
      · rw [if_pos c]
        have v40 : v ≠ 40 := fun z => by
          have := fit_40 (t := t) hn hl
          rw [z] at c
          omega
        refine lpo_l (f - 1) (by omega) ⟨v + 1, by omega, by omega, nI_add v 1, fun u h1 h2 => ?_, fun _ => ⟨rfl, r2⟩, r3⟩
        by_cases d : u = v
        · rw [d]; exact c
        · exact hu u h1 (by omega)
      · rw [if_neg c, bd1_s]
        apply bd1_mk
        refine ed_mono (s_writeC (OCl_fr r3 (by decide +kernel) ho) ⟨v1, by omega⟩ hl (by omega) r2) ?_
        rintro M31 ⟨w1, w2⟩
        exact lpo_r ⟨v, ⟨v1, by omega, by omega, hu⟩, rfl, w1, fr_tr (fr_mono (by decide) (by decide) w2) r3⟩
  · rintro (z | r) hr
    · exact hr.elim
    · exact ed_mk hr
