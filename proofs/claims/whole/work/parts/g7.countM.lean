/-! THE REFERENCE COUNTS ON -/
theorem dig_mod {x T k : Nat} (h : k < T) : x % 10 ^ T / 10 ^ k % 10 = x / 10 ^ k % 10 := by
  obtain ⟨j, rfl⟩ : ∃ j, T = k + 1 + j := ⟨T - k - 1, by omega⟩
  have e : 10 ^ (k + 1 + j) = 10 ^ k * (10 * 10 ^ j) := by rw [Nat.pow_add, Nat.pow_succ, Nat.mul_assoc]
  rw [e, Nat.mod_mul_right_div_self, Nat.mod_mul_right_mod]
theorem pow_le9 {T : Nat} (h : T ≤ 9) : 1 ≤ 10 ^ T ∧ 10 ^ T ≤ 1000000000 := by
  refine ⟨Nat.one_le_pow _ _ (by omega), ?_⟩
  exact Nat.pow_le_pow_right (n := 10) (by omega) h
theorem s_digits {N : im_M} {B : Nat → Nat} {n : Nat} {v9 v10 : Int32} (hn : n ≤ 200) (hB : ∀ i, i < n → B i < 256 ∧ im_i N 85 i = nI (B i)) : lp (uc3 (f_MScriptRows_takeCopy_L73 v9 v10 (nI n) N)) (0, 0, 1) = some (nI (tdg B n), lZ ((vlD B n (tdg B n) : Nat) : Int), lZ ((10 ^ tdg B n : Nat) : Int)) := by
  have tl := tdg_le (B := B) (n := n)
  have ix : ∀ k, k < n → nI n - 1 - nI k = nI (n - 1 - k) := fun k hk => nI_s1 hk (by omega)
  refine lp_row (b := uc3 (f_MScriptRows_takeCopy_L73 v9 v10 (nI n) N)) (fun k => (nI k, lZ ((vlD B n k : Nat) : Int), lZ ((10 ^ k : Nat) : Int))) (tdg B n) (fun k hk => ?_) ?_
  · show f_MScriptRows_takeCopy_L73 v9 v10 (nI n) N (nI k) _ _ = _
    unfold f_MScriptRows_takeCopy_L73
    have c9 : ((9 : Int32) ≤ nI k) = (9 ≤ k) := nIl (x := 9) (by omega) (by omega)
    have hd := tdg_d hk
    have b := hB (n - 1 - k) (by omega)
    have dz : ¬ dgB (nI (B (n - 1 - k))) = 0 := by rw [dgB_n b.1]; exact fun z => z hd
    simp only [c9]
    rw [if_neg (by omega), if_nIl (by omega) (by omega), if_neg (by omega), ix k (by omega), gd_pos (by rw [inb_nI (by omega)]; omega), gd_pos (by rw [inb_nI (by omega)]; omega), nI_clamp (by omega), b.2, s_dgM, bd1_s, if_neg dz]
    have e48 : (nI (B (n - 1 - k)) - 48).toInt64 = lZ ((B (n - 1 - k) - 48 : Nat) : Int) := by
      rw [nI_sm 48 (by show 48 ≤ _; omega)]
      show (nI (B (n - 1 - k) - 48)).toInt64 = _
      rw [iZ_nI, iZ_l (by omega)]
    have e10 : (10 : Int64) = lZ 10 := rfl
    rw [e48, e10, lZ_mul, lZ_add, lZ_mul, show nI k + 1 = nI (k + 1) from nI_add k 1]
    show some (Sum.inl (nI (k + 1), lZ _, lZ _)) = some (Sum.inl (nI (k + 1), lZ ((vlD B n k + 10 ^ k * (B (n - 1 - k) - 48) : Nat) : Int), lZ ((10 ^ (k + 1) : Nat) : Int)))
    rw [Nat.pow_succ, Nat.mul_comm (10 ^ k) 10, Int.natCast_add, Int.natCast_mul (10 ^ k) (B (n - 1 - k) - 48), Int.natCast_mul 10 (10 ^ k)]
    rfl
  · show f_MScriptRows_takeCopy_L73 v9 v10 (nI n) N (nI (tdg B n)) _ _ = _
    unfold f_MScriptRows_takeCopy_L73
    have c9 : ((9 : Int32) ≤ nI (tdg B n)) = (9 ≤ tdg B n) := nIl (x := 9) (by omega) (by omega)
    simp only [c9]
    rw [if_nIl (by omega) (by omega)]
    by_cases a : 9 ≤ tdg B n
    · rw [if_pos a]
    · rw [if_neg a]
      by_cases b : n ≤ tdg B n
      · rw [if_pos b]
      · have nb := hB (n - 1 - tdg B n) (by omega)
        have nd : ¬ (48 ≤ B (n - 1 - tdg B n) ∧ B (n - 1 - tdg B n) ≤ 57) := by
          intro z
          have : isD B (n - 1 - tdg B n) = true := decide_eq_true z
          unfold tdg at this a b
          cases e : fdp (fun k => isD B (n - 1 - k) = false) (if n ≤ 9 then n else 9) with
          | none =>
            rw [e] at a b
            replace a : ¬ 9 ≤ (if n ≤ 9 then n else 9) := a
            replace b : ¬ n ≤ (if n ≤ 9 then n else 9) := b
            split at a <;> split at b <;> omega
          | some j =>
            rw [e] at this
            have h2 := (fdp_some _ _ e).2.1
            rw [h2] at this
            cases this
        have dz : dgB (nI (B (n - 1 - tdg B n))) = 0 := by rw [dgB_n nb.1]; exact nd
        rw [if_neg b, ix _ (by omega), gd_pos (by rw [inb_nI (by omega)]; omega), nI_clamp (by omega), nb.2, s_dgM, bd1_s, if_pos dz]
theorem s_upTo {N : im_M} {v21 v22 : Int32} {u : Nat} (hu : 1 ≤ u ∧ u ≤ 1000000000) {z : Int} (hz : -100000 ≤ z ∧ z ≤ 1000100000) : ∃ y : Nat, lp (uc1 (f_MScriptRows_takeCopy_L160 v21 v22 (lZ ((u : Nat) : Int)) N)) (lZ z) = some (lZ ((y : Nat) : Int)) ∧ y % u = (z.emod ((u : Nat) : Int)).toNat ∧ y < 3000000000 := by
  have L : ed (lp (uc1 (f_MScriptRows_takeCopy_L160 v21 v22 (lZ ((u : Nat) : Int)) N)) (lZ z)) (fun r => ∃ y : Nat, r = lZ ((y : Nat) : Int) ∧ y % u = (z.emod ((u : Nat) : Int)).toNat ∧ y < 3000000000) := by
    refine lp_inv (fun k (s : Int64) => ∃ t : Int, s = lZ t ∧ (-t).toNat = k ∧ t.emod ((u : Nat) : Int) = z.emod ((u : Nat) : Int) ∧ -100000 ≤ t ∧ t ≤ 2000000000) ?_ (k := (-z).toNat) ⟨z, rfl, rfl, rfl, by omega, by omega⟩
    rintro k s ⟨t, rfl, hk, ht, t1, t2⟩
    show ed (f_MScriptRows_takeCopy_L160 v21 v22 (lZ ((u : Nat) : Int)) N (lZ t)) _
    unfold f_MScriptRows_takeCopy_L160
    have c : (0 ≤ lg_cmp (lZ t) 0) = ¬ t < 0 := by
      have e0 : (0 : Int64) = lZ 0 := rfl
      rw [lc_ge, e0, lZ_lt (by omega) (by omega)]
    simp only [c]
    by_cases d : t < 0
    · rw [if_neg (fun z => z d), lZ_add]
      refine lpo_l (-(t + u)).toNat (by omega) ⟨t + u, rfl, rfl, ?_, by omega, by omega⟩
      rw [← ht]
      exact Int.add_emod_right _ _
    · rw [if_pos d]
      refine lpo_r ⟨t.toNat, by rw [Int.toNat_of_nonneg (by omega)], ?_, by omega⟩
      rw [← ht]
      have e : t = ((t.toNat : Nat) : Int) := (Int.toNat_of_nonneg (by omega)).symm
      rw [e]
      rfl
  obtain ⟨r, e, y, rfl, h⟩ := L
  exact ⟨y, e, h⟩
theorem s_digitsBack {N : im_M} {B : Nat → Nat} {n T y : Nat} (hn : n ≤ 200) (hT : T ≤ n) (hy : y < 3000000000) (hB : ∀ i, i < n → im_i N 85 i = nI (B i)) : ed (lp (uc3 (f_MScriptRows_takeCopy_L180 (nI n) (nI T))) (lZ ((y : Nat) : Int), 0, N)) (fun r => fr (2 ^ 85) [] N r ∧ ∀ i, i < n → im_i r 85 i = if n - T ≤ i then nI (48 + y / 10 ^ (n - 1 - i) % 10) else nI (B i)) := by
  refine lp_inv (fun m (s : Int64 × Int32 × im_M) => ∃ k : Nat, k + m = T ∧ s.1 = lZ ((y / 10 ^ k : Nat) : Int) ∧ s.2.1 = nI k ∧ fr (2 ^ 85) [] N s.2.2 ∧ ∀ i, i < n → im_i s.2.2 85 i = if n - k ≤ i then nI (48 + y / 10 ^ (n - 1 - i) % 10) else nI (B i)) ?_ (k := T) ⟨0, by omega, by rw [Nat.pow_zero, Nat.div_one], rfl, fr_refl, fun i hi => by rw [if_neg (by omega)]; exact hB i hi⟩
  rintro m ⟨x30, x31, M32⟩ ⟨k, hk, e1, e2, g, h⟩
  replace e1 : x30 = lZ ((y / 10 ^ k : Nat) : Int) := e1
  replace e2 : x31 = nI k := e2
  replace g : fr (2 ^ 85) [] N M32 := g
  replace h : ∀ i, i < n → im_i M32 85 i = if n - k ≤ i then nI (48 + y / 10 ^ (n - 1 - i) % 10) else nI (B i) := h
  subst e1 e2
  show ed (f_MScriptRows_takeCopy_L180 (nI n) (nI T) _ (nI k) M32) _
  unfold f_MScriptRows_takeCopy_L180
  rw [if_nIl (by omega) (by omega)]
  by_cases c : T ≤ k
  · rw [if_pos c]
    obtain rfl : k = T := by omega
    exact lpo_r ⟨g, h⟩
  · have hw : y / 10 ^ k ≤ y := Nat.div_le_self _ _
    have e10 : (10 : Int64) = lZ ((10 : Nat) : Int) := rfl
    have ed10 : lZ ((y / 10 ^ k : Nat) : Int) / 10 = lZ ((y / 10 ^ (k + 1) : Nat) : Int) := by
      rw [e10, lZ_divN (by omega) (by omega) (by omega), Nat.pow_succ, Nat.div_div_eq_div_mul]
    have er : (lZ ((y / 10 ^ k : Nat) : Int) - lZ ((y / 10 ^ k : Nat) : Int) / 10 * 10).toInt32 = nI (y / 10 ^ k % 10) := by
      have dm := Nat.div_add_mod (y / 10 ^ k) 10
      have dl : y / 10 ^ (k + 1) = y / 10 ^ k / 10 := by rw [Nat.pow_succ, Nat.div_div_eq_div_mul]
      rw [ed10, e10, lZ_mul, lZ_sub, dl, lZ_i (by omega), iZ_nI]
      congr 1
      omega
    rw [if_neg c, nI_s1 (by omega) (by omega), gd_pos (by rw [inb_nI (by omega)]; omega), nI_clamp (by omega), er, ed10, show (48 : Int32) + nI (y / 10 ^ k % 10) = nI (48 + y / 10 ^ k % 10) from nI_add 48 _]
    refine lpo_l (m - 1) (by omega) ⟨k + 1, by omega, rfl, nI_add k 1, fr_I (by decide) g, fun i hi => ?_⟩
    show (if i = n - 1 - k then nI (48 + y / 10 ^ k % 10) else im_i M32 85 i) = _
    by_cases e : i = n - 1 - k
    · rw [if_pos e, if_pos (by omega), e, show n - 1 - (n - 1 - k) = k by omega]
    · rw [if_neg e, h i hi]
      by_cases d : n - k ≤ i
      · rw [if_pos d, if_pos (by omega)]
      · rw [if_neg d, if_neg (by omega)]
/-- the bytes of a field, for copy c -/
def cpB (B : Nat → Nat) (n ct : Nat) (st : Int) (c : Nat) (i : Nat) : Nat := if ct = 0 then B i else cnB B n (st * (c : Int)) i
theorem s_takeCopy {M : im_M} {f n ct c : Nat} {st : Int} {B : Nat → Nat} (hf : f ≤ 120) (hn : n ≤ 200) (hB : TDt M f n B) (h10 : im_i M 82 (16 * f + 10) = nI n) (h8 : im_i M 82 (16 * f + 8) = nI ct) (hct : ct ≤ 1) (h9 : im_i M 82 (16 * f + 9) = iZ st) (hst : -99 ≤ st ∧ st ≤ 99) (hc : c ≤ 12) : ed (f_MScriptRows_takeCopy (nI f) (nI c) M) (fun r => fr (2 ^ 85) [] M r ∧ ∀ i, i < n → im_i r 85 i = nI (cpB B n ct st c i)) := by
  unfold f_MScriptRows_takeCopy
  have e10 : (16 : Int32) * nI f + 10 = nI (16 * f + 10) := by rw [nI_m]; exact nI_add _ 10
  have e8 : (16 : Int32) * nI f + 8 = nI (16 * f + 8) := by rw [nI_m]; exact nI_add _ 8
  have e9 : (16 : Int32) * nI f + 9 = nI (16 * f + 9) := by rw [nI_m]; exact nI_add _ 9
  have tl := tdg_le (B := B) (n := n)
  rw [e10, e8, e9, gd_pos (by rw [inb_nI (by omega)]; omega), nI_clamp (by omega), h10]
  apply bd1_mk
  refine ed_mono (s_copyRow hf hn hB) ?_
  rintro M7 ⟨f7, h7⟩
  have g8 : im_i M7 82 (16 * f + 8) = nI ct := (f7.1 82 _ (by decide) (by simp)).trans h8
  have g9 : im_i M7 82 (16 * f + 9) = iZ st := (f7.1 82 _ (by decide) (by simp)).trans h9
  have c0 : (nI ct = 0) = (ct = 0) := nIe (c := 0) (by omega) (by omega)
  rw [gd_pos (by rw [inb_nI (by omega)]; omega), nI_clamp (by omega), g8]
  simp only [c0]
  by_cases d : ct = 0
  · rw [if_neg (fun z => z d)]
    refine ed_mk ⟨f7, fun i hi => ?_⟩
    unfold cpB
    rw [if_pos d]
    exact h7 i hi
  · have sc : -1188 ≤ st * (c : Int) ∧ st * (c : Int) ≤ 1188 := by
      have hc' : (0 : Int) ≤ (c : Int) ∧ (c : Int) ≤ 12 := by omega
      constructor
      · have : -99 * (c : Int) ≤ st * (c : Int) := Int.mul_le_mul_of_nonneg_right hst.1 hc'.1
        omega
      · have : st * (c : Int) ≤ 99 * (c : Int) := Int.mul_le_mul_of_nonneg_right hst.2 hc'.1
        omega
    have pw := pow_le9 tl.2
    have vl := vlD_lt (B := B) (n := n) (k := tdg B n) (Nat.le_refl _)
    obtain ⟨y, ey, ymod, y3⟩ := s_upTo (N := M7) (v21 := nI n) (v22 := nI (tdg B n)) (u := 10 ^ tdg B n) pw (z := ((vlD B n (tdg B n) : Nat) : Int) + st * (c : Int)) (by omega)
    have emul : (iZ st * nI c).toInt64 = lZ (st * (c : Int)) := by rw [iZ_nI, iZ_mul, iZ_l (by omega)]
    rw [if_pos d, s_digits hn (fun i hi => ⟨(hB i hi).1, h7 i hi⟩), bd3_s, gd_pos (by rw [inb_nI (by omega)]; omega), nI_clamp (by omega), g9, emul, lZ_add, ey, bd1_s]
    apply bd1_mk
    refine ed_mono (s_digitsBack (T := tdg B n) hn tl.1 y3 h7) ?_
    rintro r ⟨fr_, hr⟩
    refine ed_mk ⟨fr_tr fr_ f7, fun i hi => ?_⟩
    rw [hr i hi]
    unfold cpB cnB
    rw [if_neg d]
    by_cases e : n - tdg B n ≤ i
    · rw [if_pos e, if_pos ⟨e, hi⟩]
      congr 2
      unfold cnV
      rw [← ymod, dig_mod (by omega)]
    · rw [if_neg e, if_neg (fun z => e z.1)]
