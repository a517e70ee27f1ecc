theorem TBR_f {A : Nat} {M M' : im_M} (hf : fr A [] M M') (h : A.testBit 109 = false ∧ A.testBit 110 = false) (q : TBR M) : TBR M' := ⟨by rw [fr_ar hf h.1]; exact q.1, by rw [fr_ar hf h.2]; exact q.2⟩
theorem s_allBlocks {M : im_M} {v l : Nat} {C : Nat → Fin 256} (qt : TBR M) (hv : 1 ≤ v ∧ v ≤ 40) (hl : l < 4) (hC : ∀ k, k < CW v → im_i M 120 k = nI (C k).val) : ed (f_MSquareRows_allBlocks (nI v) (nI l) M) (fun r => ((∀ b, b < bcT (jx v l) → GDb C (HO v l) (bcT (jx v l)) (ckT (jx v l)) ((ckT (jx v l) - kpV v l) / 2) b) → r.1 = nI (cdS C (HO v l) (bcT (jx v l)) (ckT (jx v l)) ((ckT (jx v l) - kpV v l) / 2) (bcT (jx v l))) ∧ ∀ b i, b < bcT (jx v l) → i < szB (HO v l) (bcT (jx v l)) b → im_i r.2 119 (srB (HO v l) (bcT (jx v l)) b + i) = nI (cdV C (HO v l) (bcT (jx v l)) (ckT (jx v l)) ((ckT (jx v l) - kpV v l) / 2) b i).val) ∧ ((∃ b, b < bcT (jx v l) ∧ ¬ GDb C (HO v l) (bcT (jx v l)) (ckT (jx v l)) ((ckT (jx v l) - kpV v l) / 2) b) → r.1 = -1)) := by
  obtain ⟨n1, n2, c1, c2, h1, h2, h3, h4, h5⟩ := bc_n hv hl
  unfold f_MSquareRows_allBlocks
  rw [s_checkOf qt hv hl, bd1_s]
  have k3 := kpV_3 (v := v) (l := l)
  have bo : ∀ {N : im_M}, TBR N → f_MSquareRows_blocksOf (nI v) (nI l) N = some (nI (bcT (jx v l))) := fun q => s_blocksOf q hv hl
  have so : ∀ {N : im_M} {b : Nat}, TBR N → b ≤ 81 → f_MSquareRows_shareOf (nI v) (nI l) (nI b) N = some (nI (szB (HO v l) (bcT (jx v l)) b)) := fun q hb => s_shareOf q hv hl hb
  have sa : ∀ {N : im_M} {b : Nat}, TBR N → b ≤ 81 → f_MSquareRows_startOf (nI v) (nI l) (nI b) N = some (nI (srB (HO v l) (bcT (jx v l)) b)) := fun q hb => s_startOf q hv hl hb
  have po : ∀ {N : im_M} {b i : Nat}, TBR N → b < bcT (jx v l) → i ≤ 255 → f_MSquareRows_placeOf (nI v) (nI l) (nI b) (nI i) N = some (nI (plcB (HO v l) (bcT (jx v l)) b i)) := fun q hb hi => s_placeR q hv hl hb hi
  generalize hh : HO v l = h at *
  generalize hnn : bcT (jx v l) = n at *
  generalize hcc : ckT (jx v l) = c at *
  have et : (nI c - nI (kpV v l)) / 2 = nI ((c - kpV v l) / 2) := by
    rw [nI_sb (by omega)]
    exact nI_div (b := 2) (by omega) (by omega) (by omega)
  generalize htt : (c - kpV v l) / 2 = t at *
  have t1 : 2 * t ≤ c := by omega
  refine bs2_q (P := fun (r : Int32 × im_M) => (∀ b, b < n → GDb C h n c t b) ∧ r.1 = nI (cdS C h n c t n) ∧ ∀ b i, b < n → i < szB h n b → im_i r.2 119 (srB h n b + i) = nI (cdV C h n c t b i).val) (R := fun (r : Int32 × im_M) => r.1 = -1 ∧ ∃ b, b < n ∧ ¬ GDb C h n c t b) (lp_inv (fun m (s : Int32 × Int32 × im_M) => ∃ b, b + m = n ∧ s.1 = nI (cdS C h n c t b) ∧ s.2.1 = nI b ∧ (∀ b', b' < b → GDb C h n c t b') ∧ (∀ b' i, b' < b → i < szB h n b' → im_i s.2.2 119 (srB h n b' + i) = nI (cdV C h n c t b' i).val) ∧ fr 168147341466791857922331593125463588864 [] M s.2.2) ?_ (k := n) ⟨0, by omega, rfl, rfl, fun b' hb => by omega, fun b' i hb => by omega, fr_refl⟩) ?_ ?_
  · rintro m ⟨x6, x7, M8⟩ ⟨b, hb, e6, e7, hG, hD, hf⟩
    replace e6 : x6 = nI (cdS C h n c t b) := e6
    replace e7 : x7 = nI b := e7
    replace hD : ∀ b' i, b' < b → i < szB h n b' → im_i M8 119 (srB h n b' + i) = nI (cdV C h n c t b' i).val := hD
    replace hf : fr 168147341466791857922331593125463588864 [] M M8 := hf
    subst e6 e7
    have T8 : TBR M8 := TBR_f hf (by decide) qt
    show ed (f_MSquareRows_allBlocks_L13 (nI v) (nI l) (nI c) (nI (cdS C h n c t b)) (nI b) M8) _
    unfold f_MSquareRows_allBlocks_L13
    rw [bo T8, bd1_s, if_nIl (by omega) (by omega)]
    by_cases y : n ≤ b
    · rw [if_pos y]
      obtain rfl : b = n := by omega
      exact lpo_r ⟨hG, rfl, hD⟩
    · have sb := szB_b (h := h) (n := n) (b := b)
      have sr := srB_h (h := h) (n := n) (b := b) (by omega) (by omega)
      rw [if_neg y, so T8 (by omega), bd1_s]
      have p1 : ed (lp (uc2 (f_MSquareRows_allBlocks_L37 (nI v) (nI l) (nI c) (nI (cdS C h n c t b)) (nI b) (nI (szB h n b)))) (0, M8)) (fun R => AF (im_i R 121) (wB C h n b) (szB h n b + c) ∧ fr (2 ^ 121) [] M8 R) := by
        refine lp_for (S := Unit) (fun q _ (s : Int32 × im_M) => s.1 = nI q ∧ AF (im_i s.2 121) (wB C h n b) q ∧ fr (2 ^ 121) [] M8 s.2) (Q := fun _ R => AF (im_i R 121) (wB C h n b) (szB h n b + c) ∧ fr (2 ^ 121) [] M8 R) (szB h n b + c) (fun _ s => s) ?_ ?_ (s := ()) ⟨rfl, fun j hj => by omega, fr_refl⟩
        · rintro q u ⟨x, M9⟩ hq ⟨e, h9, hf9⟩
          replace e : x = nI q := e
          replace h9 : AF (im_i M9 121) (wB C h n b) q := h9
          replace hf9 : fr (2 ^ 121) [] M8 M9 := hf9
          subst e
          have pl := plcB_lt (h := h) (n := n) (c := c) (b := b) (i := q) (by omega) (by omega) hq
          have cq : im_i M9 120 (plcB h n b q) = nI (C (plcB h n b q)).val := by
            rw [fr_at hf9 (by decide), fr_at hf (by decide)]
            exact hC _ (by omega)
          show ed (f_MSquareRows_allBlocks_L37 (nI v) (nI l) (nI c) (nI (cdS C h n c t b)) (nI b) (nI (szB h n b)) (nI q) M9) _
          unfold f_MSquareRows_allBlocks_L37
          rw [nI_add, if_nIl (by omega) (by omega), if_neg (by omega), po (TBR_f hf9 (by decide) T8) (by omega) (by omega), bd1_s, gd_pos (by rw [inb_nI (by omega)]; omega), gd_pos (by rw [inb_nI (by omega)]; omega), nI_clamp (by omega), nI_clamp (by omega), cq]
          refine ed_mk ⟨_, rfl, nI_add q 1, fun j hj => ?_, fr_I (by decide) hf9⟩
          show im_i (im_setI M9 121 q _) 121 j = _
          by_cases d : j = q
          · subst d; exact hit
          · rw [sk1 (by omega)]; exact h9 j (by omega)
        · rintro u ⟨x, M9⟩ ⟨e, h9, hf9⟩
          replace e : x = nI (szB h n b + c) := e
          subst e
          show ed (f_MSquareRows_allBlocks_L37 (nI v) (nI l) (nI c) (nI (cdS C h n c t b)) (nI b) (nI (szB h n b)) (nI (szB h n b + c)) M9) _
          unfold f_MSquareRows_allBlocks_L37
          rw [nI_add, if_nIl (by omega) (by omega), if_pos (by omega)]
          exact ed_mk ⟨_, rfl, h9, hf9⟩
      obtain ⟨M19, e19, W19, f19⟩ := p1
      rw [e19, bd1_s, s_spared hv hl, bd1_s, et, nI_add]
      obtain ⟨⟨x20, M20⟩, e20, r1, r2⟩ := s_correct (t := t) (show szB h n b + c ≤ 255 by omega) (show c ≤ 30 by omega) t1 W19
      have f20 := f_MSquareRows_correct_fr e20
      replace f20 : fr 167482727468899399985879689595323416576 [] M19 M20 := f20
      rw [e20, bd2_s]
      have fa : fr 168147341466791857922331593125463588864 [] M M20 := fr_tr (fr_mono (by decide) (fun p hp => hp) f20) (fr_tr (fr_mono (by decide) (fun p hp => hp) f19) hf)
      by_cases g : GDb C h n c t b
      · have cd := cd_b g
        obtain ⟨rx, rw'⟩ := r1 _ _ cd
        replace rx : x20 = nI (cdw C h n c t b) := rx
        replace rw' : AF (im_i M20 121) (cdV C h n c t b) (szB h n b + c) := rw'
        have wl := cd.2.2
        rw [rx, if_pos (show (0 : Int32) ≤ nI (cdw C h n c t b) by rw [show (0 : Int32) = nI 0 from rfl, nIl (by omega) (by omega)]; omega), sa (TBR_f fa (by decide) qt) (by omega), bd1_s]
        apply bd1_mk
        rw [nI_add]
        refine ed_mono (lp_for (S := Unit) (fun q _ (s : Int32 × im_M) => s.1 = nI q ∧ (∀ b' i, b' < b → i < szB h n b' → im_i s.2 119 (srB h n b' + i) = nI (cdV C h n c t b' i).val) ∧ (∀ i, i < q → im_i s.2 119 (srB h n b + i) = nI (cdV C h n c t b i).val) ∧ fr (2 ^ 119) [] M20 s.2) (Q := fun _ R => (∀ b' i, b' < b + 1 → i < szB h n b' → im_i R 119 (srB h n b' + i) = nI (cdV C h n c t b' i).val) ∧ fr (2 ^ 119) [] M20 R) (szB h n b) (fun _ s => s) ?_ ?_ (s := ()) (t := (0, M20)) ⟨rfl, fun b' i hb' hi => ?_, fun i hi => by omega, fr_refl⟩) ?_
        · rintro q u ⟨x, M9⟩ hq ⟨e, h9, h9', hf9⟩
          replace e : x = nI q := e
          replace h9 : ∀ b' i, b' < b → i < szB h n b' → im_i M9 119 (srB h n b' + i) = nI (cdV C h n c t b' i).val := h9
          replace h9' : ∀ i, i < q → im_i M9 119 (srB h n b + i) = nI (cdV C h n c t b i).val := h9'
          replace hf9 : fr (2 ^ 119) [] M20 M9 := hf9
          subst e
          show ed (f_MSquareRows_allBlocks_L121 (nI v) (nI l) (nI c) (nI (cdS C h n c t b + cdw C h n c t b)) (nI b) (nI (szB h n b)) (nI (srB h n b)) (nI q) M9) _
          unfold f_MSquareRows_allBlocks_L121
          rw [if_nIl (by omega) (by omega), if_neg (by omega), nI_add, gd_pos (by rw [inb_nI (by omega)]; omega), gd_pos (by rw [inb_nI (by omega)]; omega), nI_clamp (by omega), nI_clamp (by omega), fr_at hf9 (a := 121) (by decide), rw' q (by omega)]
          refine ed_mk ⟨_, rfl, nI_add q 1, fun b' i hb' hi => ?_, fun i hi => ?_, fr_I (by decide) hf9⟩
          · show im_i (im_setI M9 119 (srB h n b + q) _) 119 (srB h n b' + i) = _
            have mo := srB_mono (h := h) (n := n) b b' hb'
            rw [sk1 (by omega)]
            exact h9 b' i hb' hi
          · show im_i (im_setI M9 119 (srB h n b + q) _) 119 (srB h n b + i) = _
            by_cases d : i = q
            · subst d; exact hit
            · rw [sk1 (by omega)]
              exact h9' i (by omega)
        · rintro u ⟨x, M9⟩ ⟨e, h9, h9', hf9⟩
          replace e : x = nI (szB h n b) := e
          subst e
          show ed (f_MSquareRows_allBlocks_L121 (nI v) (nI l) (nI c) (nI (cdS C h n c t b + cdw C h n c t b)) (nI b) (nI (szB h n b)) (nI (srB h n b)) (nI (szB h n b)) M9) _
          unfold f_MSquareRows_allBlocks_L121
          rw [if_nIl (by omega) (by omega), if_pos (by omega)]
          refine ed_mk ⟨_, rfl, fun b' i hb' hi => ?_, hf9⟩
          by_cases d : b' = b
          · subst d; exact h9' i hi
          · exact h9 b' i (by omega) hi
        · show im_i M20 119 (srB h n b' + i) = _
          rw [fr_at f20 (by decide), fr_at f19 (by decide)]
          exact hD b' i hb' hi
        · rintro R ⟨d1, d2⟩
          refine lpo_l (m - 1) (by omega) ⟨b + 1, by omega, rfl, nI_add b 1, fun b' hb' => ?_, d1, fr_tr (fr_mono (by decide) (fun p hp => hp) d2) fa⟩
          by_cases d : b' = b
          · rw [d]; exact g
          · exact hG b' (by omega)
      · have rx := r2 g
        replace rx : x20 = -1 := rx
        rw [rx, if_neg (by decide)]
        exact lpo_r ⟨rfl, b, by omega, g⟩
  · rintro ⟨x, R⟩ ⟨a1, a2, a3⟩
    exact ed_mk ⟨fun _ => ⟨a2, a3⟩, fun ⟨b, hb, z⟩ => absurd (a1 b hb) z⟩
  · rintro ⟨x, R⟩ ⟨a1, b, hb, z⟩
    exact ed_mk ⟨fun q => absurd (q b hb) z, fun _ => a1⟩
/-- both put the same codewords right alike -/
theorem two_mend {Mc Mr : im_M} {v l : Nat} {C : Nat → Fin 256} (qp : PWL Mc) (qt : TBR Mr) (hv : 1 ≤ v ∧ v ≤ 40) (hl : l < 4) (hC : ∀ k, k < CW v → im_i Mc 44 k &&& 255 = nI (C k).val) (hR : ∀ k, k < CW v → im_i Mr 120 k = nI (C k).val) : ∃ rc rr, f_HBlocks_mend (nI v) (nI l) Mc = some rc ∧ f_MSquareRows_allBlocks (nI v) (nI l) Mr = some rr ∧ ((rc.1 = -1 ∧ rr.1 = -1) ∨ ∃ (m : Nat) (D : Nat → Fin 256), m ≤ 1215 ∧ rc.1 = nI m ∧ rr.1 = nI m ∧ ∀ j, j < HO v l → im_i rc.2 40 j &&& 255 = nI (D j).val ∧ im_i rr.2 119 j = nI (D j).val) := by
  obtain ⟨n1, n2, c1, c2, h1, h2, h3, h4, h5⟩ := bc_n hv hl
  obtain ⟨rc, ec, a1, a2⟩ := s_mendAll qp hv hl hC
  obtain ⟨rr, er, b1, b2⟩ := s_allBlocks qt hv hl hR
  refine ⟨rc, rr, ec, er, ?_⟩
  by_cases g : ∀ b, b < bcT (jx v l) → GDb C (HO v l) (bcT (jx v l)) (ckT (jx v l)) ((ckT (jx v l) - kpV v l) / 2) b
  · obtain ⟨p1, p2⟩ := a1 g
    obtain ⟨q1, q2⟩ := b1 g
    have cl := cdS_le (by omega) _ g
    obtain ⟨D, hD⟩ := tb_choose (r := fun j (x : Fin 256) => j < HO v l → im_i rc.2 40 j &&& 255 = nI x.val ∧ im_i rr.2 119 j = nI x.val) (fun j => by
      by_cases hj : j < HO v l
      · obtain ⟨b, i, e1, e2, e3⟩ := srB_ex (h := HO v l) (n := bcT (jx v l)) (bcT (jx v l)) j (by rw [srB_n (by omega)]; exact hj)
        refine ⟨cdV C (HO v l) (bcT (jx v l)) (ckT (jx v l)) ((ckT (jx v l) - kpV v l) / 2) b i, fun _ => ⟨?_, ?_⟩⟩
        · rw [e3]; exact p2 b i e1 e2
        · rw [e3]; exact q2 b i e1 e2
      · exact ⟨0, fun z => absurd z hj⟩)
    exact Or.inr ⟨_, D, by omega, p1, q1, fun j hj => hD j hj⟩
  · have z : ∃ b, b < bcT (jx v l) ∧ ¬ GDb C (HO v l) (bcT (jx v l)) (ckT (jx v l)) ((ckT (jx v l) - kpV v l) / 2) b := Classical.byContradiction (fun q => g (fun b hb => Classical.byContradiction (fun q2 => q ⟨b, hb, q2⟩)))
    exact Or.inl ⟨a2 z, b2 z⟩
