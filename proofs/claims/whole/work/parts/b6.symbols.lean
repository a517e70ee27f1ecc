/-! ROWS OF SYMBOLS: FOUND AND READ -/
theorem tab_s : ∀ j : Fin 106, im_i mm_341 97 j.val = xa_3 (nI j.val) ∧ nI (xa_3 (nI j.val)).toNatClampNeg = xa_3 (nI j.val) ∧ okt 6 (xa_3 (nI j.val)).toNatClampNeg = true := by decide +kernel
def rw6 (u : Nat → Nat) (k : Nat) : Nat → Nat := nr u (6 * k) 11 (sm u (6 * k) 6)
def rw7 (u : Nat → Nat) (n : Nat) : Nat → Nat := nr u (6 * n) 13 (sm u (6 * n) 7)
def syo (u : Nat → Nat) (k : Nat) : Option Nat := fdp (fun j => xa_3 (nI j) = pv (rw6 u k) 6) 106
def sy (u : Nat → Nat) (k : Nat) : Nat := (syo u k).getD 0
theorem sy_lt {u : Nat → Nat} (k : Nat) : sy u k < 106 := by
  unfold sy
  cases e : syo u k with
  | none => show 0 < 106; omega
  | some j => exact (fdp_some 106 j e).1
/-- n symbols, their check, the end -/
def RWp (u : Nat → Nat) (n : Nat) : Prop := (∀ k, k < n → ¬ syo u k = none) ∧ pv (rw7 u n) 7 = nI 2331112 ∧ 103 ≤ sy u 0 ∧ (sy u 0 + chS (sy u) (n - 2)) % 103 = sy u (n - 1)
def rwLs (u : Nat → Nat) (n : Nat) : Option (List Nat) := tsr (sy u) (n - 1) (n - 1) (sy u 0 - 103) 1 []
theorem s_addS {M : im_M} {v : Int32} {k : Nat} (hk : k < 140) (e : im_i M 31 9 = nI k) : f_HBars_addSymbol v M = some (im_setI (im_setI M 36 k v) 31 9 (nI (k + 1))) := by
  unfold f_HBars_addSymbol
  have z : ¬ (140 : Int32) ≤ nI k := nI_ge (b := 140) hk (by omega)
  rw [e, if_neg z, gd_pos (by rw [inb_nI (by omega)]; exact hk), nI_clamp (by omega)]
  have : im_i (im_setI M 36 k v) 31 9 = nI k := by rw [← e]; rfl
  rw [this, nI_1]
def rsI (M : im_M) (u : Nat → Nat) (n : Nat) (m : Nat) (st : Int32 × im_M) : Prop := ∃ k, k + m = n ∧ st.1 = nI (6 * k) ∧ im_i st.2 31 9 = nI k ∧ SY (im_i st.2 36) (sy u) k ∧ (∀ j, j < k → ¬ syo u j = none) ∧ (1 ≤ k → 103 ≤ sy u 0) ∧ fr (2 ^ 36) [(31, 9)] M st.2
theorem s_readSym {M : im_M} {u : Nat → Nat} {n : Nat} (q : WH M u (6 * n + 7)) (hn : 2 ≤ n) : ed (f_HBars_readSymbols M) (fun r => fr (2 ^ 36 ||| 2 ^ 68) [(31, 9), (31, 12)] M r.2 ∧ ((r.1 = 1 ∧ RWp u n ∧ ∃ L, rwLs u n = some L ∧ OUT r.2 L ∧ L.length ≤ 300) ∨ (r.1 = 0 ∧ ¬ (RWp u n ∧ ∃ L, rwLs u n = some L)))) := by
  have hq := q.1
  have h84 : n ≤ 84 := by omega
  unfold f_HBars_readSymbols
  have e7 : ∀ N, im_i N 31 11 = nI (6 * n + 7) → im_i N 31 11 - 7 = nI (6 * n) := by
    intro N hN
    have e : (7 : Int32) = iZ 7 := rfl
    rw [hN, iZ_nI, e, iZ_sub, iZ_nI]
    congr 1
    omega
  have p7 : f_HBars_patternAt (nI (6 * n)) 7 13 M = some (pv (rw7 u n) 7) := s_patH q (a := 6 * n) (c := 7) (m := 13) (by omega) (by omega) (by omega) (by omega)
  rw [e7 M q.2.2.1, p7, bd1_s]
  have eS : (2331112 : Int32) = nI 2331112 := rfl
  rw [eS]
  by_cases hst : pv (rw7 u n) 7 = nI 2331112
  · rw [if_pos hst]
    apply bs1_mk
    have h0 : rsI M u n n (0, im_setI M 31 9 0) := ⟨0, by omega, rfl, rfl, fun k hk => absurd hk (by omega), fun k hk => absurd hk (by omega), fun z => absurd z (by omega), fr_F (by decide) fr_refl⟩
    refine ed_mono (lp_inv (rsI M u n) (Q := fun (r : im_M ⊕ (Int32 × im_M)) => match r with
      | .inl N => im_i N 31 9 = nI n ∧ SY (im_i N 36) (sy u) n ∧ (∀ j, j < n → ¬ syo u j = none) ∧ 103 ≤ sy u 0 ∧ fr (2 ^ 36) [(31, 9)] M N
      | .inr p => p.1 = 0 ∧ ¬ ((∀ j, j < n → ¬ syo u j = none) ∧ 103 ≤ sy u 0) ∧ fr (2 ^ 36) [(31, 9)] M p.2) ?_ h0) ?_
    · rintro m ⟨x', N⟩ ⟨k, b1, b2, b3, b4, b5, b6, b7⟩
      replace b2 : x' = nI (6 * k) := b2
      replace b3 : im_i N 31 9 = nI k := b3
      replace b4 : SY (im_i N 36) (sy u) k := b4
      replace b7 : fr (2 ^ 36) [(31, 9)] M N := b7
      subst b2
      show ed (f_HBars_readSymbols_L29 (nI (6 * k)) N) _
      unfold f_HBars_readSymbols_L29
      have qN : WH N u (6 * n + 7) := WH_fr b7 (by decide +kernel) q
      rw [e7 N qN.2.2.1]
      by_cases c : n ≤ k
      · rw [if_pos (nI_le (by omega) (by omega))]
        have hkn : k = n := by omega
        subst hkn
        exact lpo_r ⟨b3, b4, b5, b6 (by omega), b7⟩
      · have p6 : f_HBars_patternAt (nI (6 * k)) 6 11 N = some (pv (rw6 u k) 6) := s_patH qN (a := 6 * k) (c := 6) (m := 11) (by omega) (by omega) (by omega) (by omega)
        have i3 : f_HBars_indexOf_3 (pv (rw6 u k) 6) N = some (oI (syo u k)) := s_idx3
        rw [if_neg (nI_ge (by omega) (by omega)), p6, bd1_s, i3, bd1_s]
        cases es : syo u k with
        | none =>
          rw [if_pos (show oI none = -1 from rfl)]
          exact lpo_r ⟨rfl, fun z => z.1 k (by omega) es, b7⟩
        | some j =>
          have hj : j < 106 := (fdp_some 106 j es).1
          have hsy : sy u k = j := by unfold sy; rw [es]; rfl
          have nj : ¬ oI (some j) = -1 := fun z => absurd (show nI j < 0 by rw [show nI j = -1 from z]; decide) (nI_pos (by omega))
          rw [if_neg nj]
          simp only [jn0]
          have add : (1 ≤ k + 1 → 103 ≤ sy u 0) → ed (bd1 (f_HBars_addSymbol (oI (some j)) N) fun M12 => some (Sum.inl (nI (6 * k) + 6, M12) : (Int32 × im_M) ⊕ ((im_M) ⊕ (Int32 × im_M)))) (lpo (rsI M u n) (fun (r : im_M ⊕ (Int32 × im_M)) => match r with
              | .inl N => im_i N 31 9 = nI n ∧ SY (im_i N 36) (sy u) n ∧ (∀ j, j < n → ¬ syo u j = none) ∧ 103 ≤ sy u 0 ∧ fr (2 ^ 36) [(31, 9)] M N
              | .inr p => p.1 = 0 ∧ ¬ ((∀ j, j < n → ¬ syo u j = none) ∧ 103 ≤ sy u 0) ∧ fr (2 ^ 36) [(31, 9)] M p.2) m) := by
            intro h103
            rw [s_addS (by omega) b3, bd1_s]
            have e6 : nI (6 * k) + 6 = nI (6 * (k + 1)) := by
              have : (6 : Int32) = nI 6 := rfl
              rw [this, nI_add]
              rfl
            rw [e6]
            refine lpo_l (n - (k + 1)) (by omega) ⟨k + 1, by omega, rfl, rfl, ?_, ?_, h103, fr_F (by decide) (fr_I (by decide) b7)⟩
            · intro i hi
              show im_i (im_setI N 36 k (oI (some j))) 36 i = _
              by_cases ci : i = k
              · subst ci
                rw [hsy]
                simp [mi_I]
                rfl
              · rw [← b4 i (by omega)]
                simp [mi_I, ci]
            · intro i hi
              by_cases ci : i = k
              · subst ci
                rw [es]
                simp
              · exact b5 i (by omega)
          by_cases ck : k = 0
          · have z0 : nI (6 * k) = 0 := by rw [ck]; rfl
            rw [if_neg (fun z => z z0)]
            have c103 : ((103 : Int32) ≤ oI (some j)) = (103 ≤ j) := nIl (x := 103) (by omega) (by omega)
            simp only [c103]
            have hs0 : sy u 0 = j := by rw [← ck]; exact hsy
            by_cases c3 : 103 ≤ j
            · rw [if_pos c3]
              exact add (fun _ => by rw [hs0]; exact c3)
            · rw [if_neg c3]
              exact lpo_r ⟨rfl, fun z => c3 (by rw [← hs0]; exact z.2), b7⟩
          · have z0 : ¬ nI (6 * k) = 0 := nI_z (by omega) (by omega)
            rw [if_pos z0]
            exact add (fun _ => b6 (by omega))
    · rintro (N | ⟨z, N⟩) hr
      · obtain ⟨b3, b4, b5, b6, b7⟩ := hr
        show ed (gd (inb (im_i N 31 9 - 1) 140) _) _
        rw [b3, nI_m1 (by omega), gd_pos (by rw [inb_nI (by omega)]; omega), s_chkH sy_lt (fun k hk => b4 k (by omega)) (by omega) (by omega), bd1_s, nI_clamp (by omega), b4 (n - 1) (by omega)]
        have hl := sy_lt (u := u) (n - 1)
        have hmod : (sy u 0 + chS (sy u) (n - 1 - 1)) % 103 < 103 := Nat.mod_lt _ (by omega)
        have ce : (nI (sy u (n - 1)) = nI ((sy u 0 + chS (sy u) (n - 1 - 1)) % 103)) = (sy u (n - 1) = (sy u 0 + chS (sy u) (n - 1 - 1)) % 103) := nIe (by omega) (by omega)
        simp only [ce]
        have f1 : fr (2 ^ 36 ||| 2 ^ 68) [(31, 9), (31, 12)] M N := fr_mono (by decide) (by decide) b7
        by_cases c : sy u (n - 1) = (sy u 0 + chS (sy u) (n - 1 - 1)) % 103
        · rw [if_neg (fun z => z c)]
          have hrw : RWp u n := ⟨b5, hst, b6, c.symm⟩
          apply bd2_mk
          refine ed_mono (s_tell sy_lt (fun k hk => b4 k (by omega)) b6 (by omega) (by omega)) ?_
          rintro ⟨z, N'⟩ ⟨k1, k2⟩
          have f2 : fr (2 ^ 36 ||| 2 ^ 68) [(31, 9), (31, 12)] M N' := fr_tr (fr_mono (by decide) (by decide) k1) f1
          cases et : tsr (sy u) (n - 1) (n - 1) (sy u 0 - 103) 1 [] with
          | none =>
            rw [et] at k2
            replace k2 : z = 0 := k2
            subst k2
            rw [if_pos (show (0 : Int32) = 0 from rfl)]
            refine ed_mk ⟨f2, Or.inr ⟨rfl, ?_⟩⟩
            rintro ⟨_, L, hL⟩
            unfold rwLs at hL
            rw [et] at hL
            cases hL
          | some L =>
            rw [et] at k2
            obtain ⟨k3, k4, k5⟩ := k2
            replace k3 : z = 1 := k3
            subst k3
            rw [if_neg (show ¬ (1 : Int32) = 0 by decide)]
            exact ed_mk ⟨f2, Or.inl ⟨rfl, hrw, L, et, k4, k5⟩⟩
        · rw [if_pos c]
          exact ed_mk ⟨f1, Or.inr ⟨rfl, fun z => c z.1.2.2.2.symm⟩⟩
      · obtain ⟨k1, k2, k3⟩ := hr
        exact ed_mk ⟨fr_mono (by decide) (by decide) k3, Or.inr ⟨k1, fun z => k2 ⟨z.1.1, z.1.2.2.1⟩⟩⟩
  · rw [if_neg hst]
    exact ed_mk ⟨fr_refl, Or.inr ⟨rfl, fun z => hst z.1.2.1⟩⟩
def irI (M : im_M) (u : Nat → Nat) (n : Nat) (m : Nat) (st : Int32 × im_M) : Prop := ∃ k, k + m = n ∧ st.1 = nI k ∧ SY (im_i st.2 105) (sy u) k ∧ (∀ j, j < k → ¬ syo u j = none) ∧ fr (2 ^ 105) [] M st.2
theorem plS {M : im_M} {u : Nat → Nat} {k : Nat} (t97 : im_i M 97 = im_i mm_341 97) : f_MLineRows_place (nI (nm (mn9 (rw6 u k)) 6)) M = some (oI (syo u k)) := by
  rw [s_plc]
  congr 2
  unfold syo
  apply fdp_congr
  intro j hj
  obtain ⟨a1, a2, a3⟩ := tab_s ⟨j, hj⟩
  show im_i M 97 j = nI (nm (mn9 (rw6 u k)) 6) ↔ xa_3 (nI j) = pv (rw6 u k) 6
  rw [t97, a1]
  have := pv_eq (f := rw6 u k) (c := 6) (by omega) a3
  rw [a2] at this
  rw [this]
theorem s_isRow {M : im_M} {u : Nat → Nat} {n : Nat} (q : WM M u (6 * n + 7)) (hn : 2 ≤ n) (t97 : im_i M 97 = im_i mm_341 97) : ed (f_MLineRows_isRow (nI n) M) (fun r => fr (2 ^ 105 ||| 2 ^ 107) [(96, 17)] M r.2 ∧ ((r.1 = 1 ∧ RWp u n ∧ ∃ L, rwLs u n = some L ∧ OUM r.2 L ∧ L.length ≤ 290) ∨ (r.1 = 0 ∧ ¬ (RWp u n ∧ ∃ L, rwLs u n = some L)))) := by
  have hq := q.1
  have h84 : n ≤ 84 := by omega
  have e6 : (6 : Int32) = nI 6 := rfl
  unfold f_MLineRows_isRow
  apply bs1_mk
  have h0 : irI M u n n (0, M) := ⟨0, by omega, rfl, fun k hk => absurd hk (by omega), fun k hk => absurd hk (by omega), fr_refl⟩
  refine ed_mono (lp_inv (irI M u n) (Q := fun (r : im_M ⊕ (Int32 × im_M)) => match r with
    | .inl N => SY (im_i N 105) (sy u) n ∧ (∀ j, j < n → ¬ syo u j = none) ∧ fr (2 ^ 105) [] M N
    | .inr p => p.1 = 0 ∧ ¬ (∀ j, j < n → ¬ syo u j = none) ∧ fr (2 ^ 105) [] M p.2) ?_ h0) ?_
  · rintro m ⟨x', N⟩ ⟨k, b1, b2, b4, b5, b7⟩
    replace b2 : x' = nI k := b2
    replace b4 : SY (im_i N 105) (sy u) k := b4
    replace b7 : fr (2 ^ 105) [] M N := b7
    subst b2
    show ed (f_MLineRows_isRow_L2 (nI n) (nI k) N) _
    unfold f_MLineRows_isRow_L2
    have qN : WM N u (6 * n + 7) := WM_fr b7 (by decide +kernel) q
    have n97 : im_i N 97 = im_i mm_341 97 := by rw [← t97]; exact fr_c b7 97 (by decide) (by simp)
    by_cases c : n ≤ k
    · rw [if_pos (nI_le (by omega) (by omega))]
      have hkn : k = n := by omega
      subst hkn
      exact lpo_r ⟨b4, b5, b7⟩
    · have s1 : 6 ≤ sm u (6 * k) 6 := sm_ge 6 (fun i hi => (q.2.1 (6 * k + i) (by omega)).1)
      have s2 : sm u (6 * k) 6 ≤ 512 * 6 := sm_le 6 (fun i hi => (q.2.1 (6 * k + i) (by omega)).2)
      have sS : f_MLineRows_sumOf (nI (6 * k)) 6 N = some (nI (sm u (6 * k) 6)) := s_sumM qN (a := 6 * k) (c := 6) (by omega)
      have sC : f_MLineRows_counts (nI (6 * k)) 6 (nI (sm u (6 * k) 6)) 11 N = some (nI (nm (mn9 (rw6 u k)) 6)) := s_cntM qN (a := 6 * k) (c := 6) (m := 11) (by omega) (by omega) (by omega) (by omega)
      have ek : (6 : Int32) * nI k = nI (6 * k) := by rw [e6, nI_mul]
      rw [if_neg (nI_ge (by omega) (by omega)), ek, sS, bd1_s, sC, bd1_s, plS n97, bd1_s, gd_pos (by rw [inb_nI (by omega)]; omega), gd_pos (by rw [inb_nI (by omega)]; omega), nI_clamp (by omega)]
      have rd : im_i (im_setI N 105 k (oI (syo u k))) 105 k = oI (syo u k) := by simp [mi_I]
      rw [rd]
      have oA : (0 ≤ oI (syo u k) ↔ ¬ syo u k = none) := oI_neg (fun j hj => by have := (fdp_some 106 j hj).1; omega)
      by_cases es : syo u k = none
      · rw [if_neg (fun z => oA.mp z es)]
        exact lpo_r ⟨rfl, fun z => z k (by omega) es, fr_I (by decide) b7⟩
      · rw [if_pos (oA.mpr es), nI_1]
        refine lpo_l (n - (k + 1)) (by omega) ⟨k + 1, by omega, rfl, ?_, ?_, fr_I (by decide) b7⟩
        · intro i hi
          show im_i (im_setI N 105 k (oI (syo u k))) 105 i = _
          by_cases ci : i = k
          · subst ci
            rw [rd]
            unfold sy
            cases e : syo u i with
            | none => exact absurd e es
            | some j => rfl
          · rw [← b4 i (by omega)]
            simp [mi_I, ci]
        · intro i hi
          by_cases ci : i = k
          · subst ci
            exact es
          · exact b5 i (by omega)
  · rintro (N | ⟨z, N⟩) hr
    · obtain ⟨b4, b5, b7⟩ := hr
      have qN : WM N u (6 * n + 7) := WM_fr b7 (by decide +kernel) q
      have s1 : 7 ≤ sm u (6 * n) 7 := sm_ge 7 (fun i hi => (q.2.1 (6 * n + i) (by omega)).1)
      have s2 : sm u (6 * n) 7 ≤ 512 * 7 := sm_le 7 (fun i hi => (q.2.1 (6 * n + i) (by omega)).2)
      have sS : f_MLineRows_sumOf (nI (6 * n)) 7 N = some (nI (sm u (6 * n) 7)) := s_sumM qN (a := 6 * n) (c := 7) (by omega)
      have sC : f_MLineRows_counts (nI (6 * n)) 7 (nI (sm u (6 * n) 7)) 13 N = some (nI (nm (mn9 (rw7 u n)) 7)) := s_cntM qN (a := 6 * n) (c := 7) (m := 13) (by omega) (by omega) (by omega) (by omega)
      have ek : (6 : Int32) * nI n = nI (6 * n) := by rw [e6, nI_mul]
      show ed (bd1 (f_MLineRows_sumOf ((6 : Int32) * nI n) 7 N) _) _
      rw [ek, sS, bd1_s, sC, bd1_s]
      have eS : (2331112 : Int32) = nI 2331112 := rfl
      have f1 : fr (2 ^ 105 ||| 2 ^ 107) [(96, 17)] M N := fr_mono (by decide) (by decide) b7
      have pt := pv_t (f := rw7 u n) (c := 7) (t := 2331112) (by omega) (by decide)
      rw [eS]
      have c0 : Int32.toNatClampNeg 0 = 0 := rfl
      by_cases hst : nI (nm (mn9 (rw7 u n)) 7) = nI 2331112
      · have hst' : pv (rw7 u n) 7 = nI 2331112 := pt.mpr hst
        rw [if_neg (fun z => z hst), gd_pos (by decide), c0, b4 0 (by omega)]
        have hl0 := sy_lt (u := u) 0
        have c103 : (nI (sy u 0) < 103) = (sy u 0 < 103) := nIlt (c := 103) (by omega) (by omega)
        simp only [c103]
        by_cases c3 : sy u 0 < 103
        · rw [if_pos c3]
          exact ed_mk ⟨f1, Or.inr ⟨rfl, fun z => by have := z.1.2.2.1; omega⟩⟩
        · rw [if_neg c3, nI_m1 (by omega), gd_pos (by rw [inb_nI (by omega)]; omega), s_chkM sy_lt (fun k hk => b4 k (by omega)) (by omega) (by omega), bd1_s, nI_clamp (by omega), b4 (n - 1) (by omega)]
          have hl := sy_lt (u := u) (n - 1)
          have hmod : (sy u 0 + chS (sy u) (n - 1 - 1)) % 103 < 103 := Nat.mod_lt _ (by omega)
          have ce : (nI (sy u (n - 1)) = nI ((sy u 0 + chS (sy u) (n - 1 - 1)) % 103)) = (sy u (n - 1) = (sy u 0 + chS (sy u) (n - 1 - 1)) % 103) := nIe (by omega) (by omega)
          simp only [ce]
          by_cases c : sy u (n - 1) = (sy u 0 + chS (sy u) (n - 1 - 1)) % 103
          · rw [if_pos c, gd_pos (by decide)]
            have hrw : RWp u n := ⟨b5, hst', by omega, c.symm⟩
            have e103 : nI (sy u 0) - 103 = nI (sy u 0 - 103) := by
              have e : (103 : Int32) = iZ 103 := rfl
              rw [iZ_nI, e, iZ_sub, iZ_nI]
              congr 1
              omega
            rw [e103]
            apply bs1_mk
            refine ed_mono (s_tellR sy_lt b4 (by omega) hn (by omega)) ?_
            rintro (N' | ⟨z, N'⟩) hr
            · obtain ⟨L, k1, k2, k3, k4⟩ := hr
              exact ed_mk ⟨fr_tr (fr_mono (by decide) (by decide) k4) f1, Or.inl ⟨rfl, hrw, L, k1, k2, k3⟩⟩
            · obtain ⟨k1, k2, k3⟩ := hr
              refine ed_mk ⟨fr_tr (fr_mono (by decide) (by decide) k3) f1, Or.inr ⟨k1, ?_⟩⟩
              rintro ⟨_, L, hL⟩
              unfold rwLs at hL
              rw [k2] at hL
              cases hL
          · rw [if_neg c]
            exact ed_mk ⟨f1, Or.inr ⟨rfl, fun z => c z.1.2.2.2.symm⟩⟩
      · rw [if_pos hst]
        exact ed_mk ⟨f1, Or.inr ⟨rfl, fun z => hst (pt.mp z.1.2.1)⟩⟩
    · obtain ⟨k1, k2, k3⟩ := hr
      exact ed_mk ⟨fr_mono (by decide) (by decide) k3, Or.inr ⟨k1, fun z => k2 z.1.1⟩⟩
