/-! BARS -/
theorem s_put1 {M : im_M} {k : Nat} (hk : k < 800) (e : im_i M 96 10 = nI k) : ed (f_MLineRows_put 1 1 M) (fun r => im_i r.2 96 10 = nI (k + 1) ∧ (∀ j, ¬ j = k → im_i r.2 103 j = im_i M 103 j) ∧ fr (2 ^ 103) [(96, 3), (96, 10)] M r.2) := by
  unfold f_MLineRows_put
  have p1 : lp (uc2 (f_MLineRows_put_L23 1 1)) (0, im_setI M 96 3 0) = some (im_setI (im_setI M 96 3 0) 96 3 0) := by
    refine lp_of (n := 2) (lpn_l (s' := (1, im_setI (im_setI M 96 3 0) 96 3 0)) ?_ (lpn_r ?_))
    · show f_MLineRows_put_L23 1 1 0 (im_setI M 96 3 0) = _
      unfold f_MLineRows_put_L23
      rw [if_neg (by decide), if_neg (show ¬ ¬ im_i (im_setI M 96 3 0) 96 3 = 0 from fun z => z rfl)]
      rfl
    · show f_MLineRows_put_L23 1 1 1 (im_setI (im_setI M 96 3 0) 96 3 0) = _
      unfold f_MLineRows_put_L23
      rw [if_pos (by decide)]
  have z : ((if (1 : Int32) < 1 then 1 else (if (1 : Int32) ≤ 8 then 0 else 1)) : Int32) = 0 := by decide
  rw [z, p1, bd1_s]
  obtain ⟨M8, h8⟩ : ∃ M8, M8 = im_setI (im_setI M 96 3 0) 96 3 0 := ⟨_, rfl⟩
  rw [← h8]
  have f8 : fr (2 ^ 103) [(96, 3), (96, 10)] M M8 := by
    rw [h8]
    exact fr_F (by decide) (fr_F (by decide) fr_refl)
  have e3 : im_i M8 96 3 = 0 := by rw [h8]; rfl
  have e10 : im_i M8 96 10 = nI k := by rw [h8, ← e]; rfl
  have e103 : im_i M8 103 = im_i M 103 := by rw [h8]; rfl
  rw [e3, if_pos (by decide), e10, nI_1, if_pos (show nI (k + 1) ≤ 800 from nI_le (b := 800) (by omega) (by omega))]
  have p2 : lp (uc2 (f_MLineRows_put_L93 1 1)) (0, M8) = some (im_setI (im_setI M8 103 k 1) 96 10 (nI (k + 1))) := by
    refine lp_of (n := 2) (lpn_l (s' := (1, im_setI (im_setI M8 103 k 1) 96 10 (nI (k + 1)))) ?_ (lpn_r ?_))
    · show f_MLineRows_put_L93 1 1 0 M8 = _
      unfold f_MLineRows_put_L93
      rw [if_neg (by decide), e10, gd_pos (by rw [inb_nI (by omega)]; exact hk), nI_clamp (by omega)]
      have e1 : Int64.toInt32 (((1 : Int64) >>> (Int32.toInt64 ((8 : Int32) * 0) &&& 63) : Int64) &&& 255) = 1 := by decide
      rw [e1]
      have : im_i (im_setI M8 103 k 1) 96 10 = nI k := by rw [← e10]; rfl
      rw [this, nI_1]
      rfl
    · show f_MLineRows_put_L93 1 1 1 _ = _
      unfold f_MLineRows_put_L93
      rw [if_pos (by decide)]
  rw [p2, bd1_s]
  refine ed_mk ⟨rfl, ?_, fr_F (by decide) (fr_I (by decide) f8)⟩
  intro j hj
  show im_i (im_setI M8 103 k 1) 103 j = _
  rw [← e103]
  simp [mi_I, hj]
theorem s_spoilL {M : im_M} {k v : Nat} (hk : k < 800) (e : im_i M 96 10 = nI (k + 1)) (h1 : 1 ≤ v) (h2 : v ≤ 2000) : f_MLineRows_spoil (nI k) (nI v) M = some (im_i M 103 k, im_setI (im_setI M 96 3 0) 103 k (nI v)) := by
  unfold f_MLineRows_spoil
  have z : ((if nI k < 0 then 1 else (if nI k < im_i M 96 10 then (if nI v < 1 then 2 else (if nI v ≤ 2000 then 0 else 2)) else 1)) : Int32) = 0 := by
    rw [e, if_neg (nI_pos (by omega)), if_pos (nI_lt (by omega) (by omega)), if_neg (show ¬ nI v < 1 from Int32.not_lt.mpr (nI_le (a := 1) h1 (by omega))), if_pos (show nI v ≤ 2000 from nI_le (b := 2000) h2 (by omega))]
  rw [z, if_pos (show im_i (im_setI M 96 3 0) 96 3 ≤ 0 by show (0 : Int32) ≤ 0; decide), gd_pos (by rw [inb_nI (by omega)]; exact hk), gd_pos (by rw [inb_nI (by omega)]; exact hk), nI_clamp (by omega)]
  rfl
def spI (M : im_M) (W H : Nat) (D : Nat → Nat → Bool) (v : Nat → Nat) (n m : Nat) (st : Int32 × im_M) : Prop := ∃ k, k + m = n ∧ st.1 = nI k ∧ im_i st.2 96 10 = nI k ∧ (∀ j, j < k → im_i st.2 103 j = nI (v j)) ∧ fr (2 ^ 103) [(89, 0), (96, 3), (96, 10)] M st.2
theorem s_strip {M : im_M} {W H x y n : Nat} {D : Nat → Nat → Bool} {v : Nat → Nat} {d : Int32} (dr : DR M W H D) (hrun : ∀ N, DR N W H D → ∀ k, k < n → f_MDotRows_run (nI x) (nI y) (nI k) d N = some (nI (v k), im_setI N 89 0 0)) (hv : ∀ k, k < n → 1 ≤ v k ∧ v k ≤ 512) (hn : n ≤ 511) : ed (f_M_strip (nI x) (nI y) (nI n) d M) (fun N => WM N v n ∧ fr (2 ^ 103) [(89, 0), (96, 3), (96, 10)] M N) := by
  unfold f_M_strip f_MLineRows_clear
  rw [bd2_s]
  apply bd1_mk
  have h0 : spI M W H D v n n (0, im_setI (im_setI M 96 3 0) 96 10 0) := ⟨0, by omega, rfl, rfl, fun j hj => absurd hj (by omega), fr_F (by decide) (fr_F (by decide) fr_refl)⟩
  refine ed_mono (lp_inv (spI M W H D v n) (Q := fun (N : im_M) => WM N v n ∧ fr (2 ^ 103) [(89, 0), (96, 3), (96, 10)] M N) ?_ h0) (fun N hN => ed_mk hN)
  rintro m ⟨k', N⟩ ⟨k, b1, b2, b3, b4, b5⟩
  replace b2 : k' = nI k := b2
  replace b3 : im_i N 96 10 = nI k := b3
  replace b4 : ∀ j, j < k → im_i N 103 j = nI (v j) := b4
  replace b5 : fr (2 ^ 103) [(89, 0), (96, 3), (96, 10)] M N := b5
  subst b2
  show ed (f_M_strip_L12 (nI x) (nI y) (nI n) d (nI k) N) _
  unfold f_M_strip_L12
  by_cases c : n ≤ k
  · rw [if_pos (nI_le c (by omega))]
    have hkn : k = n := by omega
    subst hkn
    exact lpo_r ⟨⟨hn, hv, b3, b4⟩, b5⟩
  · rw [if_neg (nI_ge (by omega) (by omega))]
    apply bd2_mk
    refine ed_mono (s_put1 (by omega) b3) ?_
    rintro ⟨t, N1⟩ ⟨k1, k2, k3⟩
    replace k1 : im_i N1 96 10 = nI (k + 1) := k1
    replace k2 : ∀ j, ¬ j = k → im_i N1 103 j = im_i N 103 j := k2
    replace k3 : fr (2 ^ 103) [(96, 3), (96, 10)] N N1 := k3
    have f1 : fr (2 ^ 103) [(89, 0), (96, 3), (96, 10)] M N1 := fr_tr (fr_mono (by decide) (by decide) k3) b5
    show ed (bd2 (f_MDotRows_run (nI x) (nI y) (nI k) d N1) _) _
    rw [hrun N1 (DR_fr f1 (by decide +kernel) dr) k (by omega), bd2_s]
    have e10 : im_i (im_setI N1 89 0 0) 96 10 = nI (k + 1) := by rw [← k1]; rfl
    have hvk := hv k (by omega)
    rw [s_spoilL (by omega) e10 hvk.1 (by omega), bd2_s, nI_1]
    refine lpo_l (n - (k + 1)) (by omega) ⟨k + 1, by omega, rfl, ?_, ?_, fr_I (by decide) (fr_F (by decide) (fr_F (by decide) f1))⟩
    · rw [← k1]
      rfl
    · intro j hj
      show im_i (im_setI (im_setI (im_setI N1 89 0 0) 96 3 0) 103 k (nI (v k))) 103 j = _
      by_cases cj : j = k
      · subst cj
        simp [mi_I]
      · rw [← b4 j (by omega), ← k2 j cj]
        simp [mi_I, cj]
def sgI (M : im_M) (L : List Nat) (m : Nat) (st : Int32 × im_M) : Prop := ∃ k, k + m = L.length ∧ st.1 = nI k ∧ im_i st.2 96 14 = nI L.length ∧ (∀ j, j < L.length → im_i st.2 106 j = nI (L.getD j 0)) ∧ (∀ j, j < k → im_i st.2 137 j = nI (L.getD j 0)) ∧ fr (2 ^ 137) [(96, 3)] M st.2
theorem s_signs {M : im_M} {L : List Nat} (hL : L.length ≤ 290) (e14 : im_i M 96 14 = nI L.length) (e106 : ∀ j, j < L.length → im_i M 106 j = nI (L.getD j 0)) : ed (lp (uc2 (f_M_bars_L161 (nI L.length))) (0, M)) (fun N => (∀ j, j < L.length → im_i N 137 j = nI (L.getD j 0)) ∧ fr (2 ^ 137) [(96, 3)] M N) := by
  have h0 : sgI M L L.length (0, M) := ⟨0, by omega, rfl, e14, e106, fun j hj => absurd hj (by omega), fr_refl⟩
  refine lp_inv (sgI M L) ?_ h0
  rintro m ⟨k', N⟩ ⟨k, b1, b2, b3, b4, b5, b6⟩
  replace b2 : k' = nI k := b2
  replace b3 : im_i N 96 14 = nI L.length := b3
  replace b4 : ∀ j, j < L.length → im_i N 106 j = nI (L.getD j 0) := b4
  replace b5 : ∀ j, j < k → im_i N 137 j = nI (L.getD j 0) := b5
  replace b6 : fr (2 ^ 137) [(96, 3)] M N := b6
  subst b2
  show ed (f_M_bars_L161 (nI L.length) (nI k) N) _
  unfold f_M_bars_L161
  by_cases c : L.length ≤ k
  · rw [if_pos (nI_le c (by omega))]
    exact lpo_r ⟨fun j hj => b5 j (by omega), b6⟩
  · have es : f_MLineRows_sign (nI k) N = some (nI (L.getD k 0), im_setI N 96 3 0) := by
      unfold f_MLineRows_sign
      have e : im_i (im_setI N 96 3 0) 96 14 = nI L.length := by rw [← b3]; rfl
      simp only [jn0]
      rw [if_neg (nI_pos (by omega)), e, if_pos (nI_lt (by omega) (by omega)), gd_pos (by rw [inb_nI (by omega)]; omega), nI_clamp (by omega)]
      have : im_i (im_setI N 96 3 0) 106 k = nI (L.getD k 0) := by rw [← b4 k (by omega)]; rfl
      rw [this]
    rw [if_neg (nI_ge (by omega) (by omega)), es, bd2_s, gd_pos (by rw [inb_nI (by omega)]; omega), nI_clamp (by omega), nI_1]
    refine lpo_l (L.length - (k + 1)) (by omega) ⟨k + 1, by omega, rfl, b3, b4, ?_, fr_I (by decide) (fr_F (by decide) b6)⟩
    intro j hj
    show im_i (im_setI (im_setI N 96 3 0) 137 k (nI (L.getD k 0))) 137 j = _
    by_cases cj : j = k
    · subst cj
      simp [mi_I]
    · rw [← b5 j (by omega)]
      simp [mi_I, cj]
def bmI (M : im_M) (v : Nat → Nat) (m : Nat) (j : Nat) (st : Int32 × im_M) : Prop := st.1 = iZ (2 * (j : Int) - 1) ∧ 2 * j ≤ m + 1 ∧ (∀ n', 2 * j ≤ n' → n' ≤ m → n' % 2 = 1 → ∀ b' L', b' ≤ 1 → ¬ RD1 (ud v n' b') n' L') ∧ fr (2 ^ 103 ||| 2 ^ 104 ||| 2 ^ 105 ||| 2 ^ 106 ||| 2 ^ 107) [(89, 0), (96, 3), (96, 10), (96, 14), (96, 15), (96, 17)] M st.2
theorem s_barsL {M : im_M} {W H x y m : Nat} {D : Nat → Nat → Bool} {v : Nat → Nat} {d : Int32} (dr : DR M W H D) (hrun : ∀ N, DR N W H D → ∀ k, k < m → f_MDotRows_run (nI x) (nI y) (nI k) d N = some (nI (v k), im_setI N 89 0 0)) (hv : ∀ k, k < m → 1 ≤ v k ∧ v k ≤ 512) (hm : m ≤ 511) (hm2 : m % 2 = 1) (t97 : im_i M 97 = im_i mm_341 97) (t98 : im_i M 98 = im_i mm_341 98) (t99 : im_i M 99 = im_i mm_341 99) : ed (lp (uc2 (f_M_bars_L92 (nI x) (nI y) d)) (nI m, M)) (fun (r : im_M ⊕ (Int32 × im_M)) => match r with
    | .inl N => NONE1 v m ∧ fr (2 ^ 103 ||| 2 ^ 104 ||| 2 ^ 105 ||| 2 ^ 106 ||| 2 ^ 107) [(89, 0), (96, 3), (96, 10), (96, 14), (96, 15), (96, 17)] M N
    | .inr p => ∃ n b L, BEST v m n b L ∧ L.length ≤ 290 ∧ p.1 = nI L.length ∧ im_i p.2 69 10 = (if n = 59 then 2 else 1) ∧ im_i p.2 69 12 = nI L.length ∧ im_i p.2 96 15 = nI b ∧ (∀ j, j < L.length → im_i p.2 137 j = nI (L.getD j 0)) ∧ fr (2 ^ 103 ||| 2 ^ 104 ||| 2 ^ 105 ||| 2 ^ 106 ||| 2 ^ 107 ||| 2 ^ 137) [(69, 10), (69, 12), (89, 0), (96, 3), (96, 10), (96, 14), (96, 15), (96, 17)] M p.2) := by
  have h0 : bmI M v m ((m + 1) / 2) (nI m, M) := by
    refine ⟨?_, by omega, fun n' h1 h2 => absurd h1 (by omega), fr_refl⟩
    show nI m = _
    rw [iZ_nI]
    congr 1
    omega
  refine lp_inv (bmI M v m) ?_ h0
  rintro j ⟨x', N⟩ ⟨b1, b2, b3, b4⟩
  replace b1 : x' = iZ (2 * (j : Int) - 1) := b1
  replace b4 : fr (2 ^ 103 ||| 2 ^ 104 ||| 2 ^ 105 ||| 2 ^ 106 ||| 2 ^ 107) [(89, 0), (96, 3), (96, 10), (96, 14), (96, 15), (96, 17)] M N := b4
  subst b1
  show ed (f_M_bars_L92 (nI x) (nI y) d (iZ (2 * (j : Int) - 1)) N) _
  unfold f_M_bars_L92
  have c0 : (iZ (2 * (j : Int) - 1) ≤ 0) = (2 * (j : Int) - 1 ≤ 0) := iZ_le (b := 0) (by omega) (by omega)
  simp only [c0]
  by_cases cj : j = 0
  · subst cj
    rw [if_pos (by omega)]
    exact lpo_r ⟨fun n' h1 h2 b' L' h3 h4 => b3 n' (by omega) h1 h2 b' L' h3 h4, b4⟩
  · rw [if_neg (by omega)]
    obtain ⟨n, hn⟩ : ∃ n : Nat, n = 2 * j - 1 := ⟨_, rfl⟩
    have en : iZ (2 * (j : Int) - 1) = nI n := by
      rw [iZ_nI]
      congr 1
      omega
    rw [en]
    have e2 : nI n + -2 = iZ (2 * ((j - 1 : Nat) : Int) - 1) := by
      have e : (-2 : Int32) = iZ (-2) := rfl
      rw [iZ_nI, e, iZ_add]
      congr 1
      omega
    have er : nI n - nI n / 6 * 6 = nI (n % 6) := nI_rem (b := 6) (by omega) (by omega) (by omega)
    have c59 : (nI n = 59) = (n = 59) := nIe (c := 59) (by omega) (by omega)
    have c61 : (nI (n % 6) = 1) = (n % 6 = 1) := nIe (c := 1) (by omega) (by omega)
    simp only [jn0, jn1, e2, er, c59, c61]
    have next : ∀ N', fr (2 ^ 103 ||| 2 ^ 104 ||| 2 ^ 105 ||| 2 ^ 106 ||| 2 ^ 107) [(89, 0), (96, 3), (96, 10), (96, 14), (96, 15), (96, 17)] M N' → (∀ b' L', b' ≤ 1 → ¬ RD1 (ud v n b') n L') → ∀ Q : im_M ⊕ (Int32 × im_M) → Prop, ed (some (Sum.inl (iZ (2 * ((j - 1 : Nat) : Int) - 1), N') : (Int32 × im_M) ⊕ (im_M ⊕ (Int32 × im_M)))) (lpo (bmI M v m) Q j) := by
      intro N' f no Q
      refine lpo_l (j - 1) (by omega) ⟨rfl, by omega, ?_, f⟩
      intro n' h1 h2 h3 b' L' h4 h5
      by_cases cn : n' = n
      · subst cn
        exact no b' L' h4 h5
      · exact b3 n' (by omega) h2 h3 b' L' h4 h5
    have run : ∀ (a : Option ((Int32 × im_M) ⊕ ((im_M) ⊕ (Int32 × im_M)))), a = (bd1 (f_M_strip (nI x) (nI y) (nI n) d N) fun M27 => bd2 (f_MLineRows_read M27) fun x28 M28 => if x28 < 0 then some (Sum.inl (iZ (2 * ((j - 1 : Nat) : Int) - 1), M28)) else bd1 (lp (uc2 (f_M_bars_L161 x28)) (0, im_setI (im_setI M28 69 10 (if ¬ n = 59 then 1 else 2)) 69 12 x28)) fun M35 => some (Sum.inr (Sum.inr (x28, M35)))) → ed a (lpo (bmI M v m) (fun (r : im_M ⊕ (Int32 × im_M)) => match r with
        | .inl N => NONE1 v m ∧ fr (2 ^ 103 ||| 2 ^ 104 ||| 2 ^ 105 ||| 2 ^ 106 ||| 2 ^ 107) [(89, 0), (96, 3), (96, 10), (96, 14), (96, 15), (96, 17)] M N
        | .inr p => ∃ n b L, BEST v m n b L ∧ L.length ≤ 290 ∧ p.1 = nI L.length ∧ im_i p.2 69 10 = (if n = 59 then 2 else 1) ∧ im_i p.2 69 12 = nI L.length ∧ im_i p.2 96 15 = nI b ∧ (∀ j, j < L.length → im_i p.2 137 j = nI (L.getD j 0)) ∧ fr (2 ^ 103 ||| 2 ^ 104 ||| 2 ^ 105 ||| 2 ^ 106 ||| 2 ^ 107 ||| 2 ^ 137) [(69, 10), (69, 12), (89, 0), (96, 3), (96, 10), (96, 14), (96, 15), (96, 17)] M p.2) j) := by
      intro a ha
      rw [ha]
      apply bd1_mk
      refine ed_mono (s_strip (DR_fr b4 (by decide +kernel) dr) (n := n) (fun N h k hk => hrun N h k (by omega)) (fun k hk => hv k (by omega)) (by omega)) ?_
      rintro M27 ⟨q27, f27⟩
      have fa : fr (2 ^ 103 ||| 2 ^ 104 ||| 2 ^ 105 ||| 2 ^ 106 ||| 2 ^ 107) [(89, 0), (96, 3), (96, 10), (96, 14), (96, 15), (96, 17)] M M27 := fr_tr (fr_mono (by decide) (by decide) f27) b4
      have n97 : im_i M27 97 = im_i mm_341 97 := by rw [← t97]; exact fr_c fa 97 (by decide) (by decide)
      have n98 : im_i M27 98 = im_i mm_341 98 := by rw [← t98]; exact fr_c fa 98 (by decide) (by decide)
      have n99 : im_i M27 99 = im_i mm_341 99 := by rw [← t99]; exact fr_c fa 99 (by decide) (by decide)
      apply bd2_mk
      refine ed_mono (s_readL q27 (by omega) n97 n98 n99) ?_
      rintro ⟨x28, M28⟩ ⟨f28, r28⟩
      replace f28 : fr (2 ^ 103 ||| 2 ^ 104 ||| 2 ^ 105 ||| 2 ^ 106 ||| 2 ^ 107) [(96, 3), (96, 14), (96, 15), (96, 17)] M27 M28 := f28
      have fb : fr (2 ^ 103 ||| 2 ^ 104 ||| 2 ^ 105 ||| 2 ^ 106 ||| 2 ^ 107) [(89, 0), (96, 3), (96, 10), (96, 14), (96, 15), (96, 17)] M M28 := fr_tr (fr_mono (by decide) (by decide) f28) fa
      rcases r28 with ⟨b, L, a1, a2, a3, a4, a5, a6, a7, a8⟩ | ⟨a1, a2⟩
      · replace a4 : x28 = nI L.length := a4
        replace a6 : im_i M28 96 14 = nI L.length := a6
        replace a7 : im_i M28 96 15 = nI b := a7
        replace a8 : ∀ k, k < L.length → im_i M28 106 k = nI (L.getD k 0) := a8
        subst a4
        show ed (if nI L.length < 0 then _ else _) _
        rw [if_neg (nI_pos (by omega))]
        apply bd1_mk
        refine ed_mono (s_signs a5 (M := im_setI (im_setI M28 69 10 (if ¬ n = 59 then 1 else 2)) 69 12 (nI L.length)) a6 a8) ?_
        rintro M35 ⟨g1, g2⟩
        refine lpo_r ⟨n, b, L, ⟨by omega, by omega, a1, a2, a3, fun n' h1 h2 h3 b' L' h4 h5 => b3 n' (by omega) h2 h3 b' L' h4 h5⟩, a5, rfl, ?_, ?_, ?_, g1, ?_⟩
        · have : im_i M35 69 10 = im_i (im_setI (im_setI M28 69 10 (if ¬ n = 59 then 1 else 2)) 69 12 (nI L.length)) 69 10 := g2.1 69 10 (by decide) (by decide)
          rw [this]
          show (if ¬ n = 59 then 1 else 2 : Int32) = _
          by_cases c : n = 59
          · rw [if_pos c, if_neg (fun z => z c)]
          · rw [if_neg c, if_pos c]
        · have : im_i M35 69 12 = im_i (im_setI (im_setI M28 69 10 (if ¬ n = 59 then 1 else 2)) 69 12 (nI L.length)) 69 12 := g2.1 69 12 (by decide) (by decide)
          rw [this]
          rfl
        · have : im_i M35 96 15 = im_i (im_setI (im_setI M28 69 10 (if ¬ n = 59 then 1 else 2)) 69 12 (nI L.length)) 96 15 := g2.1 96 15 (by decide) (by decide)
          rw [this, ← a7]
          rfl
        · exact fr_tr (fr_mono (by decide) (by decide) g2) (fr_F (by decide) (fr_F (by decide) (fr_mono (by decide) (by decide) fb)))
      · replace a1 : x28 = -1 := a1
        subst a1
        show ed (if (-1 : Int32) < 0 then _ else _) _
        rw [if_pos (by decide)]
        exact next M28 fb a2 _
    by_cases c : n = 59
    · rw [if_pos c]
      exact run _ rfl
    · rw [if_neg c]
      by_cases c6 : n % 6 = 1
      · rw [if_neg (fun z => z c6)]
        exact run _ rfl
      · rw [if_pos c6]
        refine next N b4 ?_ _
        rintro b' L' h (⟨h59, _⟩ | ⟨_, h6, _⟩)
        · exact c h59
        · exact c6 h6
