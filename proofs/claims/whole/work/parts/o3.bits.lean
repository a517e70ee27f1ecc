/-! ROWS OF BITS -/
theorem ib_nI {v k : Nat} (hk : k < 32) : ib (nI v) k = v.testBit k := by
  show (BitVec.ofNat 32 v).getLsbD k = v.testBit k
  rw [BitVec.getLsbD_ofNat, decide_eq_true hk, Bool.true_and]
theorem nI_or {a b : Nat} : nI a ||| nI b = nI (a ||| b) := ib_ext fun k hk => by
  rw [ib_or, ib_nI hk, ib_nI hk, ib_nI hk, Nat.testBit_or]
theorem nI_xor {a b : Nat} : nI a ^^^ nI b = nI (a ^^^ b) := ib_ext fun k hk => by
  rw [ib_xor, ib_nI hk, ib_nI hk, ib_nI hk, Nat.testBit_xor]
theorem or_255 {v y : Int32} : (v ||| y) &&& 255 = (v &&& 255) ||| (y &&& 255) := ib_ext fun k hk => by
  rw [ib_and, ib_or, ib_or, ib_and, ib_and, Bool.and_or_distrib_right]
def byL (L : List Bool) (i : Nat) : Nat := 128 * (L.getD (8 * i) false).toNat + 64 * (L.getD (8 * i + 1) false).toNat + 32 * (L.getD (8 * i + 2) false).toNat + 16 * (L.getD (8 * i + 3) false).toNat + 8 * (L.getD (8 * i + 4) false).toNat + 4 * (L.getD (8 * i + 5) false).toNat + 2 * (L.getD (8 * i + 6) false).toNat + (L.getD (8 * i + 7) false).toNat
theorem by_all : ∀ (b0 b1 b2 b3 b4 b5 b6 b7 : Bool) (k : Fin 8), (128 * b0.toNat + 64 * b1.toNat + 32 * b2.toNat + 16 * b3.toNat + 8 * b4.toNat + 4 * b5.toNat + 2 * b6.toNat + b7.toNat).testBit k.val = [b7, b6, b5, b4, b3, b2, b1, b0].getD k.val false := by decide +kernel
theorem tn_1 : ∀ b : Bool, b.toNat ≤ 1 := by decide
theorem byL_lt {L : List Bool} {i : Nat} : byL L i < 256 := by
  unfold byL
  have h0 := tn_1 (L.getD (8 * i) false)
  have h1 := tn_1 (L.getD (8 * i + 1) false)
  have h2 := tn_1 (L.getD (8 * i + 2) false)
  have h3 := tn_1 (L.getD (8 * i + 3) false)
  have h4 := tn_1 (L.getD (8 * i + 4) false)
  have h5 := tn_1 (L.getD (8 * i + 5) false)
  have h6 := tn_1 (L.getD (8 * i + 6) false)
  have h7 := tn_1 (L.getD (8 * i + 7) false)
  omega
theorem byL_bit {L : List Bool} {i k : Nat} (hk : k < 8) : (byL L i).testBit k = L.getD (8 * i + (7 - k)) false := by
  unfold byL
  rw [by_all _ _ _ _ _ _ _ _ ⟨k, hk⟩]
  have c : k = 0 ∨ k = 1 ∨ k = 2 ∨ k = 3 ∨ k = 4 ∨ k = 5 ∨ k = 6 ∨ k = 7 := by omega
  rcases c with rfl | rfl | rfl | rfl | rfl | rfl | rfl | rfl <;> rfl
theorem by_eq {a b : Nat} (ha : a < 256) (hb : b < 256) (h : ∀ k, k < 8 → a.testBit k = b.testBit k) : a = b := by
  refine Nat.eq_of_testBit_eq fun k => ?_
  by_cases c : k < 8
  · exact h k c
  · have e : 2 ^ 8 ≤ 2 ^ k := Nat.pow_le_pow_right (by omega) (by omega)
    have e8 : 2 ^ 8 = 256 := by decide
    rw [Nat.testBit_lt_two_pow (by omega), Nat.testBit_lt_two_pow (by omega)]
theorem gd_snoc {L : List Bool} {b : Bool} {j : Nat} : (L ++ [b]).getD j false = if j = L.length then b else L.getD j false := by
  by_cases c : j < L.length
  · rw [if_neg (by omega), List.getD_eq_getElem?_getD, List.getD_eq_getElem?_getD, List.getElem?_append_left c]
  · rw [List.getD_eq_getElem?_getD, List.getD_eq_getElem?_getD, List.getElem?_append_right (by omega), List.getElem?_eq_none (l := L) (by omega)]
    by_cases e : j = L.length
    · rw [if_pos e, e, Nat.sub_self]
      rfl
    · rw [if_neg e, List.getElem?_eq_none (by rw [List.length_singleton]; omega)]
theorem byL_f {L : List Bool} {i : Nat} : byL (L ++ [false]) i = byL L i := by
  refine by_eq byL_lt byL_lt fun k hk => ?_
  rw [byL_bit hk, byL_bit hk, gd_snoc]
  by_cases e : 8 * i + (7 - k) = L.length
  · rw [if_pos e, List.getD_eq_getElem?_getD, List.getElem?_eq_none (by omega)]
    rfl
  · rw [if_neg e]
theorem byL_o {L : List Bool} {b : Bool} {i : Nat} (h : i ≠ L.length / 8) : byL (L ++ [b]) i = byL L i := by
  refine by_eq byL_lt byL_lt fun k hk => ?_
  rw [byL_bit hk, byL_bit hk, gd_snoc, if_neg (by omega)]
theorem byL_t {L : List Bool} : byL (L ++ [true]) (L.length / 8) = byL L (L.length / 8) ||| 2 ^ (7 - L.length % 8) := by
  have e : 2 ^ (7 - L.length % 8) ≤ 2 ^ 7 := Nat.pow_le_pow_right (by omega) (by omega)
  have e8 : 2 ^ 8 = 256 := by decide
  have e7 : 2 ^ 7 = 128 := by decide
  have l := byL_lt (L := L) (i := L.length / 8)
  refine by_eq byL_lt (by rw [← e8]; exact Nat.or_lt_two_pow (by omega) (by omega)) fun k hk => ?_
  rw [byL_bit hk, Nat.testBit_or, byL_bit hk, gd_snoc, Nat.testBit_two_pow]
  by_cases c : 8 * (L.length / 8) + (7 - k) = L.length
  · rw [if_pos c, decide_eq_true (show 7 - L.length % 8 = k by omega), Bool.or_true]
  · rw [if_neg c, decide_eq_false (show ¬ 7 - L.length % 8 = k by omega), Bool.or_false]
/-- v in w bits, the highest first -/
def nBk (v w k : Nat) : List Bool := (List.range k).map (fun j => v.testBit (w - 1 - j))
def nB (v w : Nat) : List Bool := nBk v w w
theorem nBk_s {v w k : Nat} : nBk v w (k + 1) = nBk v w k ++ [v.testBit (w - 1 - k)] := by
  unfold nBk
  rw [List.range_succ, List.map_append]
  rfl
theorem nBk_l {v w k : Nat} : (nBk v w k).length = k := by
  unfold nBk
  rw [List.length_map, List.length_range]
theorem nB_l {v w : Nat} : (nB v w).length = w := nBk_l
/-- by the class -/
def BBc (M : im_M) (h : Nat) (L : List Bool) : Prop := im_i M 39 5 = nI L.length ∧ ∀ i, i < h → im_i M 40 i &&& 255 = nI (byL L i)
theorem by_128 : ∀ s : Fin 8, (Int32.toInt8 ((128 : Int32) >>> (nI s.val &&& 31 : Int32) : Int32)).toInt32 &&& 255 = nI (2 ^ (7 - s.val)) := by decide +kernel
theorem s_putBit {M : im_M} {h : Nat} {L : List Bool} {b : Bool} {x : Int32} (q : BBc M h L) (hh : h ≤ 2956) (hl : L.length < 8 * h) (hb : (x = 0) = (b = false)) : ed (if x = 0 then some M else if 2956 ≤ ((im_i M 39 5) / 8) then some M else gd (inb ((im_i M 39 5) / 8) 2956) <| gd (inb ((im_i M 39 5) / 8) 2956) <| some (im_setI M 40 (Int32.toNatClampNeg ((im_i M 39 5) / 8)) (vp_nar .byte ((Int32.toInt8 ((im_i M 40 (Int32.toNatClampNeg ((im_i M 39 5) / 8))) ||| (Int32.toInt8 ((128 : Int32) >>> (((im_i M 39 5) - (im_i M 39 5) / 8 * 8) &&& 31 : Int32) : Int32)).toInt32)).toInt32)))) (fun R => im_i R 39 5 = nI L.length ∧ (∀ i, i < h → im_i R 40 i &&& 255 = nI (byL (L ++ [b]) i)) ∧ fr (2 ^ 40) [] M R) := by
  obtain ⟨q0, q1⟩ := q
  simp only [hb]
  cases b with
  | false =>
    rw [if_pos rfl]
    refine ed_mk ⟨q0, fun i hi => ?_, fr_refl⟩
    rw [byL_f]
    exact q1 i hi
  | true =>
    have d8 : nI L.length / 8 = nI (L.length / 8) := nI_div (b := 8) (by omega) (by omega) (by omega)
    have r8 : nI L.length - nI (L.length / 8) * 8 = nI (L.length % 8) := by
      rw [← d8]; exact nI_rem (b := 8) (by omega) (by omega) (by omega)
    have k0 : ((2956 : Int32) ≤ nI (L.length / 8)) = (2956 ≤ L.length / 8) := nIl (x := 2956) (by omega) (by omega)
    rw [if_neg (by decide), q0, d8, r8]
    simp only [k0]
    rw [if_neg (by omega), gd_pos (by rw [inb_nI (by omega)]; omega), gd_pos (by rw [inb_nI (by omega)]; omega), nI_clamp (by omega)]
    refine ed_mk ⟨by rw [sk1 (by omega)]; exact q0, fun i hi => ?_, fr_I (by decide) fr_refl⟩
    by_cases e : i = L.length / 8
    · subst e
      rw [hit, byte_255, or_255, q1 _ hi, by_128 ⟨L.length % 8, by omega⟩, nI_or, byL_t]
    · rw [sk1 (fun z => e z.2), byL_o e]
      exact q1 i hi
theorem s_put {M : im_M} {h v w : Nat} {L : List Bool} (q : BBc M h L) (hh : h ≤ 2956) (hl : L.length + w ≤ 8 * h) (hw : w ≤ 31) : ed (f_HSegments_put (nI v) (nI w) M) (fun R => BBc R h (L ++ nB v w) ∧ fr (2 ^ 40) [(39, 5)] M R) := by
  unfold f_HSegments_put
  have em : nI w - 1 = iZ ((w : Int) - 1) := by rw [iZ_nI, show (1 : Int32) = iZ 1 from rfl, iZ_sub]
  rw [em]
  apply bd1_mk
  refine ed_mono (lp_inv (fun m (s : Int32 × im_M) => ∃ k : Nat, k + m = w ∧ s.1 = iZ ((m : Int) - 1) ∧ BBc s.2 h (L ++ nBk v w k) ∧ fr (2 ^ 40) [(39, 5)] M s.2) (Q := fun R => BBc R h (L ++ nB v w) ∧ fr (2 ^ 40) [(39, 5)] M R) ?_ (k := w) ⟨0, by omega, rfl, ?_, fr_refl⟩) (fun R h => ed_mk h)
  · rintro m ⟨x3, M4⟩ ⟨k, hk, e1, b4, f4⟩
    replace e1 : x3 = iZ ((m : Int) - 1) := e1
    replace b4 : BBc M4 h (L ++ nBk v w k) := b4
    replace f4 : fr (2 ^ 40) [(39, 5)] M M4 := f4
    subst e1
    show ed (f_HSegments_put_L4 (nI v) (iZ ((m : Int) - 1)) M4) _
    unfold f_HSegments_put_L4
    have k0 : (iZ ((m : Int) - 1) < 0) = ((m : Int) - 1 < 0) := iZ_lt (b := 0) (by omega) (by omega)
    simp only [k0]
    by_cases c : (m : Int) - 1 < 0
    · rw [if_pos c]
      obtain rfl : k = w := by omega
      exact lpo_r ⟨b4, f4⟩
    · obtain ⟨i, rfl⟩ : ∃ i, m = i + 1 := ⟨m - 1, by omega⟩
      have ei : iZ (((i + 1 : Nat) : Int) - 1) = iZ (i : Int) := by congr 1; omega
      have ew : i = w - 1 - k := by omega
      have hb : (((nI v >>> (iZ (i : Int) &&& 31 : Int32) : Int32) &&& 1) = 0) = (v.testBit (w - 1 - k) = false) := by
        rw [and1_0 (by omega), ib_nI (by omega), ew]
      rw [if_neg c, ei]
      apply bd1_mk
      refine ed_mono (s_putBit b4 hh (by rw [List.length_append, nBk_l]; omega) hb) ?_
      rintro M6 ⟨c6, b6, f6⟩
      rw [c6]
      refine lpo_l i (by omega) ⟨k + 1, by omega, ?_, ⟨?_, fun j hj => ?_⟩, fr_F (by decide) (fr_tr (fr_mono (by decide) (by simp) f6) f4)⟩
      · show iZ (i : Int) + (-1) = iZ ((i : Int) - 1)
        rw [show (-1 : Int32) = iZ (-1) from rfl, iZ_add]
        rfl
      · show im_i (im_setI M6 39 5 _) 39 5 = _
        rw [hit, nBk_s, ← List.append_assoc]
        generalize L ++ nBk v w k = K
        rw [List.length_append]
        exact nI_add K.length 1
      · show im_i (im_setI M6 39 5 _) 40 j &&& 255 = _
        rw [sk1 (by omega), nBk_s, ← List.append_assoc]
        exact b6 j hj
  · show BBc M h (L ++ [])
    rw [List.append_nil]
    exact q
/-- by the reference -/
def BBr (M : im_M) (L : List Bool) : Prop := im_i M 108 19 = nI L.length ∧ ∀ i, i < 3800 → im_i M 119 i = nI (byL L i)
theorem sh_b : ∀ (b : Bool) (s : Fin 8), ((if b = true then (1 : Int32) else 0) <<< (((7 : Int32) - nI s.val) &&& 31 : Int32) : Int32) = if b = true then nI (2 ^ (7 - s.val)) else 0 := by decide +kernel
theorem s_layB {M : im_M} {v w : Nat} {L : List Bool} (q : BBr M L) (hl : L.length + w ≤ 30400) (hw : w ≤ 31) : ed (f_MSquareRows_lay (nI v) (nI w) M) (fun R => BBr R (L ++ nB v w) ∧ fr (2 ^ 119) [(108, 19)] M R) := by
  unfold f_MSquareRows_lay
  have em : nI w - 1 = iZ ((w : Int) - 1) := by rw [iZ_nI, show (1 : Int32) = iZ 1 from rfl, iZ_sub]
  rw [em]
  apply bd1_mk
  refine ed_mono (lp_inv (fun m (s : Int32 × im_M) => ∃ k : Nat, k + m = w ∧ s.1 = iZ ((m : Int) - 1) ∧ BBr s.2 (L ++ nBk v w k) ∧ fr (2 ^ 119) [(108, 19)] M s.2) (Q := fun R => BBr R (L ++ nB v w) ∧ fr (2 ^ 119) [(108, 19)] M R) ?_ (k := w) ⟨0, by omega, rfl, ?_, fr_refl⟩) (fun R h => ed_mk h)
  · rintro m ⟨x3, M4⟩ ⟨k, hk, e1, b4, f4⟩
    replace e1 : x3 = iZ ((m : Int) - 1) := e1
    replace b4 : BBr M4 (L ++ nBk v w k) := b4
    replace f4 : fr (2 ^ 119) [(108, 19)] M M4 := f4
    subst e1
    show ed (f_MSquareRows_lay_L4 (nI v) (iZ ((m : Int) - 1)) M4) _
    unfold f_MSquareRows_lay_L4
    have k0 : (iZ ((m : Int) - 1) < 0) = ((m : Int) - 1 < 0) := iZ_lt (b := 0) (by omega) (by omega)
    simp only [k0]
    by_cases c : (m : Int) - 1 < 0
    · rw [if_pos c]
      obtain rfl : k = w := by omega
      exact lpo_r ⟨b4, f4⟩
    · obtain ⟨i, rfl⟩ : ∃ i, m = i + 1 := ⟨m - 1, by omega⟩
      have ei : iZ (((i + 1 : Nat) : Int) - 1) = iZ (i : Int) := by congr 1; omega
      have ew : i = w - 1 - k := by omega
      obtain ⟨q0, q1⟩ := b4
      obtain ⟨L2, hL2⟩ : ∃ L2, L2 = L ++ nBk v w k := ⟨_, rfl⟩
      have l2 : L2.length = L.length + k := by rw [hL2, List.length_append, nBk_l]
      rw [← hL2] at q0 q1
      have en : L ++ nBk v w (k + 1) = L2 ++ [v.testBit (w - 1 - k)] := by rw [nBk_s, ← List.append_assoc, ← hL2]
      have d8 : nI L2.length / 8 = nI (L2.length / 8) := nI_div (b := 8) (by omega) (by omega) (by omega)
      have r8 : nI L2.length - nI (L2.length / 8) * 8 = nI (L2.length % 8) := by
        rw [← d8]; exact nI_rem (b := 8) (by omega) (by omega) (by omega)
      have hb : ((nI v >>> (iZ (i : Int) &&& 31 : Int32) : Int32) &&& 1) = if v.testBit (w - 1 - k) = true then 1 else 0 := by
        rw [i_and1, ib_shr (by omega), ib_nI (by omega), ew]
      rw [if_neg c, ei, q0, d8, r8, hb, gd_pos (by rw [inb_nI (by omega)]; omega), gd_pos (by rw [inb_nI (by omega)]; omega), nI_clamp (by omega), sk1 (by omega), q0, sh_b _ ⟨L2.length % 8, by omega⟩]
      refine lpo_l i (by omega) ⟨k + 1, by omega, ?_, ?_, fr_F (by decide) (fr_I (by decide) f4)⟩
      · show iZ (i : Int) + (-1) = iZ ((i : Int) - 1)
        rw [show (-1 : Int32) = iZ (-1) from rfl, iZ_add]
        rfl
      · rw [en]
        refine ⟨?_, fun j hj => ?_⟩
        · show im_i (im_setI _ 108 19 _) 108 19 = _
          rw [hit, List.length_append]
          exact nI_add _ 1
        · show im_i (im_setI (im_setI M4 119 (L2.length / 8) _) 108 19 _) 119 j = _
          rw [sk1 (by omega)]
          by_cases e : j = L2.length / 8
          · subst e
            rw [hit, q1 _ hj]
            cases hv : v.testBit (w - 1 - k) with
            | true => rw [if_pos rfl, byL_t, nI_or]
            | false =>
              rw [if_neg (by decide), byL_f]
              exact ib_ext fun z hz => by rw [ib_or, ib_0, Bool.or_false]
          · rw [sk1 (fun z => e z.2), byL_o e]
            exact q1 j hj
  · show BBr M (L ++ [])
    rw [List.append_nil]
    exact q
