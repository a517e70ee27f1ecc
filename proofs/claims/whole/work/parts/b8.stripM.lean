/-! STRIPS: THE REFERENCE -/
theorem s_isSome {M : im_M} {u : Nat → Nat} {n : Nat} (q : WM M u n) (hn : 1 ≤ n) (t97 : im_i M 97 = im_i mm_341 97) (t98 : im_i M 98 = im_i mm_341 98) (t99 : im_i M 99 = im_i mm_341 99) : ed (f_MLineRows_isSome M) (fun r => fr (2 ^ 105 ||| 2 ^ 107) [(96, 17)] M r.2 ∧ ((r.1 = 1 ∧ ∃ L, RD1 u n L ∧ OUM r.2 L ∧ L.length ≤ 290) ∨ (r.1 = 0 ∧ ¬ ∃ L, RD1 u n L))) := by
  have hq := q.1
  unfold f_MLineRows_isSome
  rw [q.2.2.1]
  have c59 : (nI n = 59) = (n = 59) := nIe (c := 59) (by omega) (by omega)
  have c19 : (nI n < 19) = (n < 19) := nIlt (c := 19) (by omega) (by omega)
  simp only [c59, c19]
  by_cases c : n = 59
  · subst c
    rw [if_neg (fun z => z rfl)]
    apply bd2_mk
    refine ed_mono (s_isTh q t98 t99) ?_
    rintro ⟨z, N⟩ ⟨k1, k2⟩
    rcases k2 with ⟨k3, k4, g, k5, k6⟩ | ⟨k3, k4⟩
    · replace k3 : z = 1 := k3
      subst k3
      refine ed_mgd (Or.inr rfl) (ed_mk ⟨k1, Or.inl ⟨rfl, (List.range 13).map (fun k => 48 + g k), Or.inl ⟨rfl, g, k5, rfl⟩, ⟨?_, ?_⟩, ?_⟩⟩)
      · rw [List.length_map, List.length_range]
        exact k4
      · intro k hk
        rw [List.length_map, List.length_range] at hk
        rw [m13 hk]
        exact k6 k hk
      · rw [List.length_map, List.length_range]
        omega
    · replace k3 : z = 0 := k3
      subst k3
      refine ed_mgd (Or.inl rfl) (ed_mk ⟨k1, Or.inr ⟨rfl, ?_⟩⟩)
      rintro ⟨L, ⟨_, g, hg, _⟩ | ⟨_, h6, _⟩⟩
      · exact k4 ⟨g, hg⟩
      · omega
  · rw [if_pos c]
    by_cases c2 : n < 19
    · rw [if_pos c2]
      refine ed_mk ⟨fr_refl, Or.inr ⟨rfl, ?_⟩⟩
      rintro ⟨L, ⟨h, _⟩ | ⟨h, _⟩⟩ <;> omega
    · rw [if_neg c2]
      have e7 : nI n - 7 = nI (n - 7) := by
        have e : (7 : Int32) = iZ 7 := rfl
        rw [iZ_nI, e, iZ_sub, iZ_nI]
        congr 1
        omega
      have er : nI (n - 7) - nI (n - 7) / 6 * 6 = nI ((n - 7) % 6) := nI_rem (b := 6) (by omega) (by omega) (by omega)
      have ed6 : nI (n - 7) / 6 = nI ((n - 7) / 6) := nI_div (b := 6) (by omega) (by omega) (by omega)
      rw [e7, er, ed6]
      have ce : (nI ((n - 7) % 6) = 0) = ((n - 7) % 6 = 0) := nIe (c := 0) (by omega) (by omega)
      simp only [ce]
      by_cases c6 : (n - 7) % 6 = 0
      · rw [if_neg (fun z => z c6)]
        have hn2 : n = 6 * ((n - 7) / 6) + 7 := by omega
        have w2 : WM M u (6 * ((n - 7) / 6) + 7) := by rw [← hn2]; exact q
        apply bd2_mk
        refine ed_mono (s_isRow w2 (by omega) t97) ?_
        rintro ⟨z, N⟩ ⟨k1, k2⟩
        rcases k2 with ⟨k3, k4, L, k5, k6, k7⟩ | ⟨k3, k4⟩
        · replace k3 : z = 1 := k3
          subst k3
          show ed (if (1 : Int32) = 0 then _ else _) _
          rw [if_neg (by decide)]
          exact ed_mk ⟨k1, Or.inl ⟨rfl, L, Or.inr ⟨by omega, by omega, k4, k5⟩, k6, k7⟩⟩
        · replace k3 : z = 0 := k3
          subst k3
          show ed (if (0 : Int32) = 0 then _ else _) _
          rw [if_pos rfl]
          refine ed_mk ⟨k1, Or.inr ⟨rfl, ?_⟩⟩
          rintro ⟨L, ⟨h59, _⟩ | ⟨_, _, h1, h2⟩⟩
          · exact c h59
          · exact k4 ⟨h1, L, h2⟩
      · rw [if_pos c6]
        refine ed_mk ⟨fr_refl, Or.inr ⟨rfl, ?_⟩⟩
        rintro ⟨L, ⟨h59, _⟩ | ⟨_, h6, _⟩⟩ <;> omega
def rv1 (M : im_M) (u : Nat → Nat) (n m : Nat) (st : Int32 × im_M) : Prop := ∃ k, k + m = n ∧ st.1 = nI k ∧ (∀ i, i < k → im_i st.2 104 i = nI (u (n - 1 - i))) ∧ fr (2 ^ 104) [] M st.2
def rv2 (M : im_M) (u : Nat → Nat) (n m : Nat) (st : Int32 × im_M) : Prop := ∃ k, k + m = n ∧ st.1 = nI k ∧ (∀ i, i < n → im_i st.2 104 i = nI (u (n - 1 - i))) ∧ (∀ i, i < k → im_i st.2 103 i = nI (u (n - 1 - i))) ∧ fr (2 ^ 103) [] M st.2
theorem s_reverse {M : im_M} {u : Nat → Nat} {n : Nat} (q : WM M u n) : ed (f_MLineRows_reverse M) (fun N => WM N (fun i => u (n - 1 - i)) n ∧ fr (2 ^ 103 ||| 2 ^ 104) [] M N) := by
  have hq := q.1
  unfold f_MLineRows_reverse
  apply bd1_mk
  have h0 : rv1 M u n n (0, M) := ⟨0, by omega, rfl, fun i hi => absurd hi (by omega), fr_refl⟩
  refine ed_mono (lp_inv (rv1 M u n) (Q := fun (N : im_M) => (∀ i, i < n → im_i N 104 i = nI (u (n - 1 - i))) ∧ fr (2 ^ 104) [] M N) ?_ h0) ?_
  · rintro m ⟨k', N⟩ ⟨k, b1, b2, b3, b4⟩
    replace b2 : k' = nI k := b2
    replace b3 : ∀ i, i < k → im_i N 104 i = nI (u (n - 1 - i)) := b3
    replace b4 : fr (2 ^ 104) [] M N := b4
    subst b2
    show ed (f_MLineRows_reverse_L2 (nI k) N) _
    unfold f_MLineRows_reverse_L2
    have qN := WM_fr b4 (by decide +kernel) q
    rw [qN.2.2.1]
    by_cases c : n ≤ k
    · rw [if_pos (nI_le c (by omega))]
      exact lpo_r ⟨fun i hi => b3 i (by omega), b4⟩
    · rw [if_neg (nI_ge (by omega) (by omega)), nI_s1 (by omega) (by omega), gd_pos (by rw [inb_nI (by omega)]; omega), gd_pos (by rw [inb_nI (by omega)]; omega), nI_clamp (by omega), nI_clamp (by omega), qN.2.2.2 (n - 1 - k) (by omega), nI_1]
      refine lpo_l (n - (k + 1)) (by omega) ⟨k + 1, by omega, rfl, ?_, fr_I (by decide) b4⟩
      intro i hi
      show im_i (im_setI N 104 k (nI (u (n - 1 - k)))) 104 i = _
      by_cases ci : i = k
      · subst ci
        simp [mi_I]
      · rw [← b3 i (by omega)]
        simp [mi_I, ci]
  · rintro N ⟨a1, a2⟩
    apply bd1_mk
    have q1 := WM_fr a2 (by decide +kernel) q
    have h1 : rv2 N u n n (0, N) := ⟨0, by omega, rfl, a1, fun i hi => absurd hi (by omega), fr_refl⟩
    refine ed_mono (lp_inv (rv2 N u n) (Q := fun (N' : im_M) => (∀ i, i < n → im_i N' 103 i = nI (u (n - 1 - i))) ∧ fr (2 ^ 103) [] N N') ?_ h1) ?_
    · rintro m ⟨k', N'⟩ ⟨k, b1, b2, b5, b3, b4⟩
      replace b2 : k' = nI k := b2
      replace b3 : ∀ i, i < k → im_i N' 103 i = nI (u (n - 1 - i)) := b3
      replace b5 : ∀ i, i < n → im_i N' 104 i = nI (u (n - 1 - i)) := b5
      replace b4 : fr (2 ^ 103) [] N N' := b4
      subst b2
      show ed (f_MLineRows_reverse_L34 (nI k) N') _
      unfold f_MLineRows_reverse_L34
      have e10 : im_i N' 96 10 = nI n := by
        rw [← q1.2.2.1]
        exact b4.1 96 10 (by decide) (by simp)
      rw [e10]
      by_cases c : n ≤ k
      · rw [if_pos (nI_le c (by omega))]
        exact lpo_r ⟨fun i hi => b3 i (by omega), b4⟩
      · rw [if_neg (nI_ge (by omega) (by omega)), gd_pos (by rw [inb_nI (by omega)]; omega), gd_pos (by rw [inb_nI (by omega)]; omega), nI_clamp (by omega), b5 k (by omega), nI_1]
        refine lpo_l (n - (k + 1)) (by omega) ⟨k + 1, by omega, rfl, ?_, ?_, fr_I (by decide) b4⟩
        · intro i hi
          rw [← b5 i hi]
          rfl
        · intro i hi
          show im_i (im_setI N' 103 k (nI (u (n - 1 - k)))) 103 i = _
          by_cases ci : i = k
          · subst ci
            simp [mi_I]
          · rw [← b3 i (by omega)]
            simp [mi_I, ci]
    · rintro N' ⟨b1, b2⟩
      refine ed_mk ⟨⟨q.1, ?_, ?_, b1⟩, fr_tr (fr_mono (by decide) (by decide) b2) (fr_mono (by decide) (by decide) a2)⟩
      · intro i hi
        exact q.2.1 (n - 1 - i) (by omega)
      · rw [← q1.2.2.1]
        exact b2.1 96 10 (by decide) (by simp)
def cpI (M : im_M) (L : List Nat) (m : Nat) (st : Int32 × im_M) : Prop := ∃ k, k + m = L.length ∧ st.1 = nI k ∧ OUM st.2 L ∧ (∀ i, i < k → im_i st.2 106 i = nI (L.getD i 0)) ∧ fr (2 ^ 106) [] M st.2
theorem s_copyL {M : im_M} {L : List Nat} (o : OUM M L) (hL : L.length ≤ 290) : ed (lp (uc2 (f_MLineRows_read_L67)) (0, M)) (fun N => OUM N L ∧ (∀ i, i < L.length → im_i N 106 i = nI (L.getD i 0)) ∧ fr (2 ^ 106) [] M N) := by
  have h0 : cpI M L L.length (0, M) := ⟨0, by omega, rfl, o, fun i hi => absurd hi (by omega), fr_refl⟩
  refine lp_inv (cpI M L) ?_ h0
  rintro m ⟨k', N⟩ ⟨k, b1, b2, b3, b4, b5⟩
  replace b2 : k' = nI k := b2
  replace b3 : OUM N L := b3
  replace b4 : ∀ i, i < k → im_i N 106 i = nI (L.getD i 0) := b4
  replace b5 : fr (2 ^ 106) [] M N := b5
  subst b2
  show ed (f_MLineRows_read_L67 (nI k) N) _
  unfold f_MLineRows_read_L67
  rw [b3.1]
  by_cases c : L.length ≤ k
  · rw [if_pos (nI_le c (by omega))]
    exact lpo_r ⟨b3, fun i hi => b4 i (by omega), b5⟩
  · rw [if_neg (nI_ge (by omega) (by omega)), gd_pos (by rw [inb_nI (by omega)]; omega), gd_pos (by rw [inb_nI (by omega)]; omega), nI_clamp (by omega), b3.2 k (by omega), nI_1]
    refine lpo_l (L.length - (k + 1)) (by omega) ⟨k + 1, by omega, rfl, ⟨b3.1, b3.2⟩, ?_, fr_I (by decide) b5⟩
    intro i hi
    show im_i (im_setI N 106 k (nI (L.getD k 0))) 106 i = _
    by_cases ci : i = k
    · subst ci
      simp [mi_I]
    · rw [← b4 i (by omega)]
      simp [mi_I, ci]
theorem s_readL {M : im_M} {v : Nat → Nat} {n : Nat} (q : WM M v n) (hn : 1 ≤ n) (t97 : im_i M 97 = im_i mm_341 97) (t98 : im_i M 98 = im_i mm_341 98) (t99 : im_i M 99 = im_i mm_341 99) : ed (f_MLineRows_read M) (fun r => fr (2 ^ 103 ||| 2 ^ 104 ||| 2 ^ 105 ||| 2 ^ 106 ||| 2 ^ 107) [(96, 3), (96, 14), (96, 15), (96, 17)] M r.2 ∧ ((∃ b L, b ≤ 1 ∧ RD1 (ud v n b) n L ∧ (b = 1 → ∀ L', ¬ RD1 (ud v n 0) n L') ∧ r.1 = nI L.length ∧ L.length ≤ 290 ∧ im_i r.2 96 14 = nI L.length ∧ im_i r.2 96 15 = nI b ∧ ∀ k, k < L.length → im_i r.2 106 k = nI (L.getD k 0)) ∨ (r.1 = -1 ∧ ∀ b L, b ≤ 1 → ¬ RD1 (ud v n b) n L))) := by
  have u0 : ud v n 0 = v := by funext i; rfl
  have u1 : ud v n 1 = fun i => v (n - 1 - i) := by funext i; rfl
  unfold f_MLineRows_read
  apply bd2_mk
  have fa : fr (2 ^ 103 ||| 2 ^ 104 ||| 2 ^ 105 ||| 2 ^ 106 ||| 2 ^ 107) [(96, 3), (96, 14), (96, 15), (96, 17)] M (im_setI M 96 3 0) := fr_F (by decide) fr_refl
  have qa := WM_fr (fr_F (A := 0) (F := [(96, 3)]) (M := M) (a := 96) (k := 3) (v := 0) (by decide) fr_refl) (by decide +kernel) q
  refine ed_mono (s_isSome qa hn t97 t98 t99) ?_
  rintro ⟨x1, M1⟩ ⟨f1, r1⟩
  replace f1 : fr (2 ^ 105 ||| 2 ^ 107) [(96, 17)] (im_setI M 96 3 0) M1 := f1
  have fb : fr (2 ^ 103 ||| 2 ^ 104 ||| 2 ^ 105 ||| 2 ^ 106 ||| 2 ^ 107) [(96, 3), (96, 14), (96, 15), (96, 17)] M M1 := fr_tr (fr_mono (by decide) (by decide) f1) fa
  -- the end of a good reading
  have good : ∀ (b : Nat) (L : List Nat) (N : im_M), b ≤ 1 → RD1 (ud v n b) n L → (b = 1 → ∀ L', ¬ RD1 (ud v n 0) n L') → L.length ≤ 290 → OUM N L → fr (2 ^ 103 ||| 2 ^ 104 ||| 2 ^ 105 ||| 2 ^ 106 ||| 2 ^ 107) [(96, 3), (96, 14), (96, 15), (96, 17)] M N → ed (bd1 (lp (uc2 (f_MLineRows_read_L67)) (0, (im_setI (im_setI N 96 15 (nI b)) 96 14 0))) fun (M16 : im_M) => some ((im_i (im_setI M16 96 14 (im_i M16 96 17)) 96 14), (im_setI M16 96 14 (im_i M16 96 17)))) (fun r => fr (2 ^ 103 ||| 2 ^ 104 ||| 2 ^ 105 ||| 2 ^ 106 ||| 2 ^ 107) [(96, 3), (96, 14), (96, 15), (96, 17)] M r.2 ∧ ((∃ b L, b ≤ 1 ∧ RD1 (ud v n b) n L ∧ (b = 1 → ∀ L', ¬ RD1 (ud v n 0) n L') ∧ r.1 = nI L.length ∧ L.length ≤ 290 ∧ im_i r.2 96 14 = nI L.length ∧ im_i r.2 96 15 = nI b ∧ ∀ k, k < L.length → im_i r.2 106 k = nI (L.getD k 0)) ∨ (r.1 = -1 ∧ ∀ b L, b ≤ 1 → ¬ RD1 (ud v n b) n L))) := by
    intro b L N g1 g2 g3 g4 g5 g6
    apply bd1_mk
    have o2 : OUM (im_setI (im_setI N 96 15 (nI b)) 96 14 0) L := ⟨g5.1, g5.2⟩
    refine ed_mono (s_copyL o2 g4) ?_
    rintro M16 ⟨k1, k2, k3⟩
    have e17 : im_i M16 96 17 = nI L.length := k1.1
    rw [e17]
    refine ed_mk ⟨fr_F (by decide) (fr_tr (fr_mono (by decide) (by decide) k3) (fr_F (by decide) (fr_F (by decide) g6))), Or.inl ⟨b, L, g1, g2, g3, ?_, g4, ?_, ?_, ?_⟩⟩
    · simp [mi_I]
    · simp [mi_I]
    · show im_i M16 96 15 = nI b
      have : im_i M16 96 15 = im_i (im_setI (im_setI N 96 15 (nI b)) 96 14 0) 96 15 := k3.1 96 15 (by decide) (by simp)
      rw [this]
      simp [mi_I]
    · intro k hk
      exact k2 k hk
  rcases r1 with ⟨a1, L, a2, a3, a4⟩ | ⟨a1, a2⟩
  · replace a1 : x1 = 1 := a1
    subst a1
    show ed (bd2 (if ¬ (1 : Int32) = 0 then some (0, M1) else _) _) _
    rw [if_pos (by decide), bd2_s, gd_pos (Or.inl rfl)]
    simp only [jn0]
    rw [if_pos (show ¬ (1 : Int32) = 0 by decide)]
    exact good 0 L M1 (by omega) (by rw [u0]; exact a2) (fun z => absurd z (by omega)) a4 a3 fb
  · replace a1 : x1 = 0 := a1
    subst a1
    show ed (bd2 (if ¬ (0 : Int32) = 0 then some (0, M1) else _) _) _
    rw [if_neg (by decide)]
    apply bd2_mk
    apply bd1_mk
    have q1 : WM M1 v n := WM_fr f1 (by decide +kernel) qa
    refine ed_mono (s_reverse q1) ?_
    rintro M3 ⟨q3, f3⟩
    apply bd2_mk
    have fc : fr (2 ^ 103 ||| 2 ^ 104 ||| 2 ^ 105 ||| 2 ^ 106 ||| 2 ^ 107) [(96, 3), (96, 14), (96, 15), (96, 17)] M M3 := fr_tr (fr_mono (by decide) (by decide) f3) fb
    have n97 : im_i M3 97 = im_i mm_341 97 := by rw [← t97]; exact fr_c fc 97 (by decide) (by decide)
    have n98 : im_i M3 98 = im_i mm_341 98 := by rw [← t98]; exact fr_c fc 98 (by decide) (by decide)
    have n99 : im_i M3 99 = im_i mm_341 99 := by rw [← t99]; exact fr_c fc 99 (by decide) (by decide)
    refine ed_mono (s_isSome q3 hn n97 n98 n99) ?_
    rintro ⟨x4, M4⟩ ⟨f4, r4⟩
    replace f4 : fr (2 ^ 105 ||| 2 ^ 107) [(96, 17)] M3 M4 := f4
    apply bd1_mk
    refine ed_mono (s_reverse (WM_fr f4 (by decide +kernel) q3)) ?_
    rintro M5 ⟨q5, f5⟩
    have fd : fr (2 ^ 103 ||| 2 ^ 104 ||| 2 ^ 105 ||| 2 ^ 106 ||| 2 ^ 107) [(96, 3), (96, 14), (96, 15), (96, 17)] M M5 := fr_tr (fr_mono (by decide) (by decide) f5) (fr_tr (fr_mono (by decide) (by decide) f4) fc)
    refine ed_mk ?_
    simp only [jn0]
    have no0 : ∀ L', ¬ RD1 (ud v n 0) n L' := fun L' z => a2 ⟨L', by rw [← u0]; exact z⟩
    rcases r4 with ⟨a1, L, a3, a4, a5⟩ | ⟨a1, a3⟩
    · replace a1 : x4 = 1 := a1
      replace a4 : OUM M4 L := a4
      subst a1
      refine ed_mgd (Or.inr rfl) ?_
      rw [if_neg (show ¬ ¬ True from fun z => z trivial)]
      show ed (if ¬ (1 : Int32) = 0 then _ else _) _
      rw [if_pos (show ¬ (1 : Int32) = 0 by decide)]
      refine good 1 L M5 (by omega) (by rw [u1]; exact a3) (fun _ => no0) a5 ⟨?_, ?_⟩ fd
      · rw [← a4.1]
        exact f5.1 96 17 (by decide) (by simp)
      · intro k hk
        rw [← a4.2 k hk]
        exact f5.1 107 k (by decide) (by simp)
    · replace a1 : x4 = 0 := a1
      subst a1
      refine ed_mgd (Or.inl rfl) ?_
      rw [if_neg (show ¬ ¬ True from fun z => z trivial)]
      show ed (if ¬ (0 : Int32) = 0 then _ else _) _
      rw [if_neg (show ¬ ¬ (0 : Int32) = 0 from fun z => z rfl)]
      refine ed_mk ⟨fr_F (by decide) (fr_F (by decide) fd), Or.inr ⟨rfl, ?_⟩⟩
      intro b L hb hL
      rcases (by omega : b = 0 ∨ b = 1) with rfl | rfl
      · exact no0 L hL
      · exact a3 ⟨L, by rw [← u1]; exact hL⟩
