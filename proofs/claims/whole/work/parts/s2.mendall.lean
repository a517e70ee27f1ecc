/-! ALL BLOCKS ARE PUT RIGHT, BY BOTH -/
theorem st8 : ∀ x : Fin 256, (vp_nar .byte ((Int32.toInt8 (nI x.val)).toInt32)) &&& 255 = nI x.val := by decide +kernel
def kpV (v l : Nat) : Nat := if v = 1 then (if l = 0 then 3 else if l = 1 then 2 else 1) else if l ≠ 0 then 0 else if v = 2 then 2 else if v = 3 then 1 else 0
theorem kpV_3 {v l : Nat} : kpV v l ≤ 3 := by
  unfold kpV
  repeat' split
  all_goals omega
theorem s_keptF {M : im_M} (v : Fin 41) (l : Fin 4) (hv : 1 ≤ v.val) : f_HBlocks_kept (nI v.val) (nI l.val) M = some (nI (kpV v.val l.val)) := by
  unfold f_HBlocks_kept
  revert v l
  decide +kernel
theorem s_sparedF {M : im_M} (v : Fin 41) (l : Fin 4) (hv : 1 ≤ v.val) : f_MSquareRows_spared (nI v.val) (nI l.val) M = some (nI (kpV v.val l.val)) := by
  unfold f_MSquareRows_spared
  revert v l
  decide +kernel
theorem s_kept {M : im_M} {v l : Nat} (hv : 1 ≤ v ∧ v ≤ 40) (hl : l < 4) : f_HBlocks_kept (nI v) (nI l) M = some (nI (kpV v l)) := s_keptF ⟨v, by omega⟩ ⟨l, hl⟩ hv.1
theorem s_spared {M : im_M} {v l : Nat} (hv : 1 ≤ v ∧ v ≤ 40) (hl : l < 4) : f_MSquareRows_spared (nI v) (nI l) M = some (nI (kpV v l)) := s_sparedF ⟨v, by omega⟩ ⟨l, hl⟩ hv.1
def wB (C : Nat → Fin 256) (h n b i : Nat) : Fin 256 := C (plcB h n b i)
def GDb (C : Nat → Fin 256) (h n c t b : Nat) : Prop := ∃ V w, CD (wB C h n b) (szB h n b + c) c t V w
noncomputable def cdV (C : Nat → Fin 256) (h n c t b : Nat) : Nat → Fin 256 := Classical.epsilon (fun V : Nat → Fin 256 => ∃ w, CD (wB C h n b) (szB h n b + c) c t V w)
noncomputable def cdw (C : Nat → Fin 256) (h n c t b : Nat) : Nat := (wrL (wB C h n b) (cdV C h n c t b) (szB h n b + c)).length
theorem cd_b {C : Nat → Fin 256} {h n c t b : Nat} (q : GDb C h n c t b) : CD (wB C h n b) (szB h n b + c) c t (cdV C h n c t b) (cdw C h n c t b) := by
  obtain ⟨w, hw⟩ : ∃ w, CD (wB C h n b) (szB h n b + c) c t (cdV C h n c t b) w := Classical.epsilon_spec (p := fun V : Nat → Fin 256 => ∃ w, CD (wB C h n b) (szB h n b + c) c t V w) q
  have e : cdw C h n c t b = w := hw.2.1.symm
  rw [e]
  exact hw
noncomputable def cdS (C : Nat → Fin 256) (h n c t : Nat) : Nat → Nat
  | 0 => 0
  | b + 1 => cdS C h n c t b + cdw C h n c t b
theorem cdS_le {C : Nat → Fin 256} {h n c t : Nat} (ht : t ≤ 15) : ∀ b, (∀ b', b' < b → GDb C h n c t b') → cdS C h n c t b ≤ 15 * b := by
  intro b
  induction b with
  | zero => intro _; exact Nat.le_refl _
  | succ b ih =>
    intro q
    have a := ih (fun b' hb => q b' (by omega))
    have d := (cd_b (q b (by omega))).2.2
    show cdS C h n c t b + cdw C h n c t b ≤ 15 * (b + 1)
    omega
theorem srB_mono {h n : Nat} : ∀ k b, b < k → srB h n b + szB h n b ≤ srB h n k := by
  intro k
  induction k with
  | zero => intro b hb; omega
  | succ k ih =>
    intro b hb
    show srB h n b + szB h n b ≤ srB h n k + szB h n k
    by_cases c : b = k
    · rw [c]; exact Nat.le_refl _
    · have := ih b (by omega)
      omega
theorem srB_ex {h n : Nat} : ∀ k j, j < srB h n k → ∃ b i, b < k ∧ i < szB h n b ∧ j = srB h n b + i := by
  intro k
  induction k with
  | zero => intro j hj; exact absurd hj (Nat.not_lt_zero j)
  | succ k ih =>
    intro j hj
    replace hj : j < srB h n k + szB h n k := hj
    by_cases c : j < srB h n k
    · obtain ⟨b, i, a1, a2, a3⟩ := ih j c
      exact ⟨b, i, by omega, a2, a3⟩
    · exact ⟨k, j - srB h n k, by omega, by omega, by omega⟩
theorem srB_n {h n : Nat} (hn : 0 < n) : srB h n n = h := by
  have r : h % n < n := Nat.mod_lt _ hn
  have e := Nat.div_add_mod h n
  rw [srB_f hn, show n - (n - h % n) = h % n by omega]
  exact e
theorem s_mendAll {M : im_M} {v l : Nat} {C : Nat → Fin 256} (qp : PWL M) (hv : 1 ≤ v ∧ v ≤ 40) (hl : l < 4) (hC : ∀ k, k < CW v → im_i M 44 k &&& 255 = nI (C k).val) : ed (f_HBlocks_mend (nI v) (nI l) M) (fun r => ((∀ b, b < bcT (jx v l) → GDb C (HO v l) (bcT (jx v l)) (ckT (jx v l)) ((ckT (jx v l) - kpV v l) / 2) b) → r.1 = nI (cdS C (HO v l) (bcT (jx v l)) (ckT (jx v l)) ((ckT (jx v l) - kpV v l) / 2) (bcT (jx v l))) ∧ ∀ b i, b < bcT (jx v l) → i < szB (HO v l) (bcT (jx v l)) b → im_i r.2 40 (srB (HO v l) (bcT (jx v l)) b + i) &&& 255 = nI (cdV C (HO v l) (bcT (jx v l)) (ckT (jx v l)) ((ckT (jx v l) - kpV v l) / 2) b i).val) ∧ ((∃ b, b < bcT (jx v l) ∧ ¬ GDb C (HO v l) (bcT (jx v l)) (ckT (jx v l)) ((ckT (jx v l) - kpV v l) / 2) b) → r.1 = -1)) := by
  obtain ⟨n1, n2, c1, c2, h1, h2, h3, h4, h5⟩ := bc_n hv hl
  obtain ⟨M1, e1, B1, f1⟩ := s_beginB (M := M) hv hl
  unfold f_HBlocks_mend
  rw [e1, bd1_s, s_kept hv hl, bd1_s]
  have q1 : PWL M1 := PWL_fr f1 (by decide) qp
  have C1 : ∀ k, k < CW v → im_i M1 44 k &&& 255 = nI (C k).val := by
    intro k hk
    rw [clr_a (as := [44]) (fs := []) (ls := []) (by decide) f1 (a := 44) (by decide)]
    exact hC k hk
  have k3 := kpV_3 (v := v) (l := l)
  generalize hh : HO v l = h at *
  generalize hnn : bcT (jx v l) = n at *
  generalize hcc : ckT (jx v l) = c at *
  have et : (im_i M1 43 12 - nI (kpV v l)) / 2 = nI ((c - kpV v l) / 2) := by
    rw [B1.2.2.1, nI_sb (by omega)]
    exact nI_div (b := 2) (by omega) (by omega) (by omega)
  rw [et]
  generalize htt : (c - kpV v l) / 2 = t
  have t1 : 2 * t ≤ c := by omega
  refine bs2_q (P := fun (r : Int32 × im_M) => (∀ b, b < n → GDb C h n c t b) ∧ r.1 = nI (cdS C h n c t n) ∧ ∀ b i, b < n → i < szB h n b → im_i r.2 40 (srB h n b + i) &&& 255 = nI (cdV C h n c t b i).val) (R := fun (r : Int32 × im_M) => r.1 = -1 ∧ ∃ b, b < n ∧ ¬ GDb C h n c t b) (lp_inv (fun m (s : Int32 × Int32 × Int32 × im_M) => ∃ b, b + m = n ∧ s.1 = nI (cdS C h n c t b) ∧ s.2.1 = nI (srB h n b) ∧ s.2.2.1 = nI b ∧ (∀ b', b' < b → GDb C h n c t b') ∧ (∀ b' i, b' < b → i < szB h n b' → im_i s.2.2.2 40 (srB h n b' + i) &&& 255 = nI (cdV C h n c t b' i).val) ∧ fr 17734023044399104 [] M1 s.2.2.2) ?_ (k := n) ⟨0, by omega, rfl, rfl, rfl, fun b' hb => by omega, fun b' i hb => by omega, fr_refl⟩) ?_ ?_
  · rintro m ⟨x5, x6, x7, M8⟩ ⟨b, hb, e5, e6, e7, hG, hD, hf⟩
    replace e5 : x5 = nI (cdS C h n c t b) := e5
    replace e6 : x6 = nI (srB h n b) := e6
    replace e7 : x7 = nI b := e7
    replace hD : ∀ b' i, b' < b → i < szB h n b' → im_i M8 40 (srB h n b' + i) &&& 255 = nI (cdV C h n c t b' i).val := hD
    replace hf : fr 17734023044399104 [] M1 M8 := hf
    subst e5 e6 e7
    have B8 : BK M8 h n c (CW v) := BK_fr hf (by decide) B1
    show ed (f_HBlocks_mend_L29 (nI t) (nI (cdS C h n c t b)) (nI (srB h n b)) (nI b) M8) _
    unfold f_HBlocks_mend_L29
    rw [B8.2.1, if_nIl (by omega) (by omega)]
    by_cases y : n ≤ b
    · rw [if_pos y]
      obtain rfl : b = n := by omega
      exact lpo_r ⟨hG, rfl, hD⟩
    · have sb := szB_b (h := h) (n := n) (b := b)
      have sr := srB_h (h := h) (n := n) (b := b) (by omega) (by omega)
      rw [if_neg y, s_sizeOf B8 (by omega) ⟨n1, n2⟩ (by omega), bd1_s]
      have p1 : ed (lp (uc2 (f_HBlocks_mend_L49 (nI t) (nI (cdS C h n c t b)) (nI (srB h n b)) (nI b) (nI (szB h n b)))) (0, M8)) (fun R => AF (im_i R 48) (wB C h n b) (szB h n b + c) ∧ fr (2 ^ 48) [] M8 R) := by
        refine lp_for (S := Unit) (fun q _ (s : Int32 × im_M) => s.1 = nI q ∧ AF (im_i s.2 48) (wB C h n b) q ∧ fr (2 ^ 48) [] M8 s.2) (Q := fun _ R => AF (im_i R 48) (wB C h n b) (szB h n b + c) ∧ fr (2 ^ 48) [] M8 R) (szB h n b + c) (fun _ s => s) ?_ ?_ (s := ()) ⟨rfl, fun j hj => by omega, fr_refl⟩
        · rintro q u ⟨x, M9⟩ hq ⟨e, h9, hf9⟩
          replace e : x = nI q := e
          replace h9 : AF (im_i M9 48) (wB C h n b) q := h9
          replace hf9 : fr (2 ^ 48) [] M8 M9 := hf9
          subst e
          have B9 : BK M9 h n c (CW v) := BK_fr hf9 (by decide) B8
          have pl := plcB_lt (h := h) (n := n) (c := c) (b := b) (i := q) (by omega) (by omega) hq
          have cq : im_i M9 44 (plcB h n b q) &&& 255 = nI (C (plcB h n b q)).val := by
            rw [fr_at hf9 (by decide), fr_at hf (by decide)]
            exact C1 _ (by omega)
          show ed (f_HBlocks_mend_L49 (nI t) (nI (cdS C h n c t b)) (nI (srB h n b)) (nI b) (nI (szB h n b)) (nI q) M9) _
          unfold f_HBlocks_mend_L49
          rw [B9.2.2.1, nI_add, if_nIl (by omega) (by omega), if_neg (by omega), s_placeOf B9 (by omega) ⟨n1, n2⟩ (by omega) (by omega), bd1_s, gd_pos (by rw [inb_nI (by omega)]; omega), gd_pos (by rw [inb_nI (by omega)]; omega), nI_clamp (by omega), nI_clamp (by omega), cq]
          refine ed_mk ⟨_, rfl, nI_add q 1, fun j hj => ?_, fr_I (by decide) hf9⟩
          show im_i (im_setI M9 48 q _) 48 j = _
          by_cases d : j = q
          · subst d; exact hit
          · rw [sk1 (by omega)]; exact h9 j (by omega)
        · rintro u ⟨x, M9⟩ ⟨e, h9, hf9⟩
          replace e : x = nI (szB h n b + c) := e
          replace hf9 : fr (2 ^ 48) [] M8 M9 := hf9
          subst e
          have B9 : BK M9 h n c (CW v) := BK_fr hf9 (by decide) B8
          show ed (f_HBlocks_mend_L49 (nI t) (nI (cdS C h n c t b)) (nI (srB h n b)) (nI b) (nI (szB h n b)) (nI (szB h n b + c)) M9) _
          unfold f_HBlocks_mend_L49
          rw [B9.2.2.1, nI_add, if_nIl (by omega) (by omega), if_pos (by omega)]
          exact ed_mk ⟨_, rfl, h9, hf9⟩
      obtain ⟨M19, e19, W19, f19⟩ := p1
      have B19 : BK M19 h n c (CW v) := BK_fr f19 (by decide) B8
      have q19 : PWL M19 := PWL_f f19 (by decide) (PWL_f hf (by decide) q1)
      rw [e19, bd1_s, B19.2.2.1, nI_add]
      obtain ⟨⟨x20, M20⟩, e20, r1, r2⟩ := s_mendCD (t := t) q19 (show szB h n b + c ≤ 255 by omega) (by omega) t1 B19.2.2.1 W19
      have f20 := f_HBlocks_mendWord_fr e20
      replace f20 : fr 17732923532771328 [] M19 M20 := f20
      rw [e20, bd2_s]
      have fa : fr 17734023044399104 [] M1 M20 := fr_tr (fr_mono (by decide) (fun p hp => hp) f20) (fr_tr (fr_mono (by decide) (fun p hp => hp) f19) hf)
      by_cases g : GDb C h n c t b
      · have cd := cd_b g
        obtain ⟨rx, rw'⟩ := r1 _ _ cd
        replace rx : x20 = nI (cdw C h n c t b) := rx
        replace rw' : AF (im_i M20 48) (cdV C h n c t b) (szB h n b + c) := rw'
        have wl := cd.2.2
        rw [rx, if_pos (nI_nm1 (by omega))]
        apply bd1_mk
        rw [nI_add]
        refine ed_mono (lp_for (S := Unit) (fun q _ (s : Int32 × im_M) => s.1 = nI q ∧ (∀ b' i, b' < b → i < szB h n b' → im_i s.2 40 (srB h n b' + i) &&& 255 = nI (cdV C h n c t b' i).val) ∧ (∀ i, i < q → im_i s.2 40 (srB h n b + i) &&& 255 = nI (cdV C h n c t b i).val) ∧ fr (2 ^ 40) [] M20 s.2) (Q := fun _ R => (∀ b' i, b' < b + 1 → i < szB h n b' → im_i R 40 (srB h n b' + i) &&& 255 = nI (cdV C h n c t b' i).val) ∧ fr (2 ^ 40) [] M20 R) (szB h n b) (fun _ s => s) ?_ ?_ (s := ()) (t := (0, M20)) ⟨rfl, fun b' i hb' hi => ?_, fun i hi => by omega, fr_refl⟩) ?_
        · rintro q u ⟨x, M9⟩ hq ⟨e, h9, h9', hf9⟩
          replace e : x = nI q := e
          replace h9 : ∀ b' i, b' < b → i < szB h n b' → im_i M9 40 (srB h n b' + i) &&& 255 = nI (cdV C h n c t b' i).val := h9
          replace h9' : ∀ i, i < q → im_i M9 40 (srB h n b + i) &&& 255 = nI (cdV C h n c t b i).val := h9'
          replace hf9 : fr (2 ^ 40) [] M20 M9 := hf9
          subst e
          show ed (f_HBlocks_mend_L124 (nI t) (nI (cdS C h n c t b + cdw C h n c t b)) (nI (srB h n b)) (nI b) (nI (szB h n b)) (nI q) M9) _
          unfold f_HBlocks_mend_L124
          rw [if_nIl (by omega) (by omega), if_neg (by omega), nI_add, gd_pos (by rw [inb_nI (by omega)]; omega), gd_pos (by rw [inb_nI (by omega)]; omega), nI_clamp (by omega), nI_clamp (by omega), fr_at hf9 (a := 48) (by decide), rw' q (by omega)]
          refine ed_mk ⟨_, rfl, nI_add q 1, fun b' i hb' hi => ?_, fun i hi => ?_, fr_I (by decide) hf9⟩
          · show im_i (im_setI M9 40 (srB h n b + q) _) 40 (srB h n b' + i) &&& 255 = _
            have mo := srB_mono (h := h) (n := n) b b' hb'
            rw [sk1 (by omega)]
            exact h9 b' i hb' hi
          · show im_i (im_setI M9 40 (srB h n b + q) _) 40 (srB h n b + i) &&& 255 = _
            by_cases d : i = q
            · subst d
              rw [hit]
              exact st8 _
            · rw [sk1 (by omega)]
              exact h9' i (by omega)
        · rintro u ⟨x, M9⟩ ⟨e, h9, h9', hf9⟩
          replace e : x = nI (szB h n b) := e
          subst e
          show ed (f_HBlocks_mend_L124 (nI t) (nI (cdS C h n c t b + cdw C h n c t b)) (nI (srB h n b)) (nI b) (nI (szB h n b)) (nI (szB h n b)) M9) _
          unfold f_HBlocks_mend_L124
          rw [if_nIl (by omega) (by omega), if_pos (by omega)]
          refine ed_mk ⟨_, rfl, fun b' i hb' hi => ?_, hf9⟩
          by_cases d : b' = b
          · subst d; exact h9' i hi
          · exact h9 b' i (by omega) hi
        · show im_i M20 40 (srB h n b' + i) &&& 255 = _
          rw [fr_at f20 (by decide), fr_at f19 (by decide)]
          exact hD b' i hb' hi
        · rintro R ⟨d1, d2⟩
          rw [nI_add]
          refine lpo_l (m - 1) (by omega) ⟨b + 1, by omega, rfl, rfl, nI_add b 1, fun b' hb' => ?_, d1, fr_tr (fr_mono (by decide) (fun p hp => hp) d2) fa⟩
          by_cases d : b' = b
          · rw [d]; exact g
          · exact hG b' (by omega)
      · have rx := r2 g
        replace rx : x20 = -1 := rx
        rw [rx, if_neg (fun z => z rfl)]
        exact lpo_r ⟨rfl, b, by omega, g⟩
  · rintro ⟨x, R⟩ ⟨a1, a2, a3⟩
    exact ed_mk ⟨fun _ => ⟨a2, a3⟩, fun ⟨b, hb, z⟩ => absurd (a1 b hb) z⟩
  · rintro ⟨x, R⟩ ⟨a1, b, hb, z⟩
    exact ed_mk ⟨fun q => absurd (q b hb) z, fun _ => a1⟩
