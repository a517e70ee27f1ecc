/-! ORDERS THAT ARE FINISHED; THE CLASS ADDS ONE -/
def hxN (b : Nat) : Nat := (hvN b).toNatClampNeg
/-- the bytes of a field in a copy -/
def zC (z : FDt × OD × Nat) (i : Nat) : Nat := cpB z.1.2.1 z.1.2.2.2.1 (fct z.1) (fsp z.1) z.2.2 i
/-- the nine numbers of an order, its bytes -/
def zR (z : FDt × OD × Nat) (t : Nat) : Int32 := odF z.2.1.1.1 (sxI (z.1.1 5) z.2.1.1.2.2.1 z.2.1.1.2.2.2 z.2.1.1.2.1) (syI (z.1.1 6) z.2.1.1.2.2.1 z.2.1.1.2.2.2 z.2.1.1.2.1) z.2.1.1.2.1 (z.1.1 7) z.2.1.2.2.1 z.2.1.2.2.2.1 z.2.1.2.2.2.2 (nI z.2.1.2.1.2) t
def zB (z : FDt × OD × Nat) (i : Nat) : Nat := if z.2.1.1.1 = 7 then 16 * hxN (zC z (2 * i)) + hxN (zC z (2 * i + 1)) else zC z (z.2.1.2.1.1 + i)
/-- an order of a field that is told, in a copy -/
def ZV (z : FDt × OD × Nat) : Prop := FV z.1 ∧ z.2.1 ∈ fO z.1 ∧ z.2.2 ≤ 12
def COK (M : im_M) (A : List (FDt × OD × Nat)) : Prop := im_i M 11 3 = nI A.length ∧ ∀ k z, A[k]? = some z → ZV z ∧ (∀ u, u < 9 → im_i M 13 (14 * k + u) = zR z u) ∧ CB (fun i => im_i M 14 (200 * k + i)) (zB z) z.2.1.2.1.2
theorem rw1_9 {F : FDt} {o : OD} {g c : Nat} {ct st wh : Int32} {u : Nat} (h : u < 9) : rw1 F.1 g (F.1 7) ct st wh o u = zR (F, o, c) u := by
  unfold rw1 zR rwC odF odR
  have : u = 0 ∨ u = 1 ∨ u = 2 ∨ u = 3 ∨ u = 4 ∨ u = 5 ∨ u = 6 ∨ u = 7 ∨ u = 8 := by omega
  rcases this with rfl | rfl | rfl | rfl | rfl | rfl | rfl | rfl | rfl <;> rfl
theorem blkO_mem {q : Nat → Int32} {o : OD} : ∀ {T : List (Nat × Nat)} {m : Nat}, o ∈ blkO q m T → ∃ x l, x ∈ T ∧ o = ((0, q 14, lnS q x.2, nI l * q 2), x, (q 11, q 12, q 13)) := by
  intro T
  induction T with
  | nil => intro m h; cases h
  | cons y T ih =>
    intro m h
    rcases List.mem_cons.mp h with h | h
    · exact ⟨y, m, List.mem_cons_self .., h⟩
    · obtain ⟨x, l, h1, h2⟩ := ih h
      exact ⟨x, l, List.mem_cons_of_mem _ h1, h2⟩
/-- where the data of an order lie -/
theorem od_in {F : FDt} {o : OD} (hF : FV F) (ho : o ∈ fO F) : o.2.1.2 ≤ 200 ∧ (¬ o.1.1 = 7 → o.2.1.1 + o.2.1.2 ≤ F.2.2.2.1) ∧ (o.1.1 = 7 → F.2.2.1 = 7 ∧ o.2.1.1 = 0 ∧ o.2.1.2 = F.2.2.2.1 / 2) := by
  obtain ⟨⟨k8, _, _, hn⟩, _, _, ⟨cc, nl, bk, _, c1, _, eL⟩, _⟩ := hF
  unfold fO at ho
  by_cases c : F.2.2.1 = 8
  · rw [c, ods_8, eL] at ho
    obtain ⟨x, l, hx, rfl⟩ := blkO_mem ho
    have := cutS_in c1 hx
    refine ⟨by show x.2 ≤ 200; omega, fun _ => by show x.1 + x.2 ≤ _; omega, fun z => ?_⟩
    replace z : (0 : Int32) = 7 := z
    exact absurd z (by decide)
  · rw [ods_1 (by omega)] at ho
    rcases List.mem_cons.mp ho with rfl | ho
    · have kds : F.2.2.1 = 0 ∨ F.2.2.1 = 1 ∨ F.2.2.1 = 2 ∨ F.2.2.1 = 3 ∨ F.2.2.1 = 4 ∨ F.2.2.1 = 5 ∨ F.2.2.1 = 6 ∨ F.2.2.1 = 7 := by omega
      have e7 : ((od1 F.1 F.2.2.1 F.2.2.2.1).1.1 = 7) = (F.2.2.1 = 7) := nIe (c := 7) (by omega) (by omega)
      have es : (od1 F.1 F.2.2.1 F.2.2.2.1).2.1.2 = if F.2.2.1 ≤ 3 then F.2.2.2.1 else if F.2.2.1 = 7 then F.2.2.2.1 / 2 else 0 := rfl
      have ef : (od1 F.1 F.2.2.1 F.2.2.2.1).2.1.1 = 0 := rfl
      rw [e7, es, ef]
      refine ⟨?_, fun z => ?_, fun z => ⟨z, rfl, by rw [if_neg (by omega), if_pos z]⟩⟩
      · repeat' split
        all_goals omega
      · rw [if_neg z]
        split <;> omega
    · by_cases d : F.2.2.1 = 1 ∧ F.1 4 = 1
      · rw [if_pos d] at ho
        rcases List.mem_cons.mp ho with rfl | ho
        · refine ⟨hn, fun _ => by show 0 + F.2.2.2.1 ≤ _; omega, fun z => ?_⟩
          replace z : (0 : Int32) = 7 := z
          exact absurd z (by decide)
        · cases ho
      · rw [if_neg d] at ho
        cases ho
theorem hv_dig {d : Nat} (h : d < 10) : hvN (48 + d) = nI d := by
  unfold hvN
  rw [if_pos (by omega), Nat.add_sub_cancel_left]
/-- bytes of copies, as those of the field -/
theorem zC_k {z : FDt × OD × Nat} (hF : FV z.1) {i : Nat} (hi : i < z.1.2.2.2.1) : zC z i < 256 ∧ (zC z i = 10 ↔ z.1.2.1 i = 10) ∧ (zC z i = 32 ↔ z.1.2.1 i = 32) ∧ ((48 ≤ zC z i ∧ zC z i ≤ 57) ↔ (48 ≤ z.1.2.1 i ∧ z.1.2.1 i ≤ 57)) ∧ ((∃ h, h < 16 ∧ hvN (z.1.2.1 i) = nI h) → ∃ h, h < 16 ∧ hvN (zC z i) = nI h) := by
  have hb := hF.2.2.1 i hi
  unfold zC cpB
  by_cases c : fct z.1 = 0
  · rw [if_pos c]
    exact ⟨hb, Iff.rfl, Iff.rfl, Iff.rfl, fun h => h⟩
  · rw [if_neg c]
    have k := cnB_k (B := z.1.2.1) (n := z.1.2.2.2.1) (sc := fsp z.1 * ((z.2.2 : Nat) : Int)) hi
    refine ⟨k.2.2.2 hb, k.1, k.2.1, k.2.2.1, fun h => ?_⟩
    unfold cnB
    by_cases d : z.1.2.2.2.1 - tdg z.1.2.1 z.1.2.2.2.1 ≤ i ∧ i < z.1.2.2.2.1
    · rw [if_pos d]
      have v9 : cnV z.1.2.1 z.1.2.2.2.1 (fsp z.1 * ((z.2.2 : Nat) : Int)) / 10 ^ (z.1.2.2.2.1 - 1 - i) % 10 < 10 := Nat.mod_lt _ (by omega)
      exact ⟨_, by omega, hv_dig v9⟩
    · rw [if_neg d]
      exact h
theorem hx_h {b h : Nat} (hh : h < 16) (e : hvN b = nI h) : hxN b = h ∧ hvN b = nI (hxN b) := by
  have : hxN b = h := by unfold hxN; rw [e, nI_clamp (by omega)]
  exact ⟨this, by rw [this]; exact e⟩
theorem s_value {M : im_M} {k : Nat} {u : Nat} (hk : k < 140) (hu : u < 14) : f_HOrders_value (nI k) (nI u) M = some (im_i M 21 (14 * k + u)) := by
  unfold f_HOrders_value
  rw [k14, nI_add, gd_pos (by rw [inb_nI (by omega)]; omega), nI_clamp (by omega)]
theorem s_hexRow {M : im_M} {a s n : Nat} {B : Nat → Nat} (hB : CB (im_i M 12) B n) (hn : n ≤ 200) (hs : 2 * s ≤ n) (hx : ∀ i, i < n → ∃ h, h < 16 ∧ hvN (B i) = nI h) (ha : a < 120) : ed (lp (uc2 (f_HOrders_addCopy_L118 (nI s) (nI (200 * a)))) (0, M)) (fun r => fr (2 ^ 14) [] M r ∧ CB (fun i => im_i r 14 (200 * a + i)) (fun i => 16 * hxN (B (2 * i)) + hxN (B (2 * i + 1))) s ∧ ∀ p, ¬ (200 * a ≤ p ∧ p < 200 * a + s) → im_i r 14 p = im_i M 14 p) := by
  refine lp_inv (fun m (t : Int32 × im_M) => ∃ i : Nat, i + m = s ∧ t.1 = nI i ∧ fr (2 ^ 14) [] M t.2 ∧ CB (fun i => im_i t.2 14 (200 * a + i)) (fun i => 16 * hxN (B (2 * i)) + hxN (B (2 * i + 1))) i ∧ ∀ p, ¬ (200 * a ≤ p ∧ p < 200 * a + i) → im_i t.2 14 p = im_i M 14 p) ?_ (k := s) ⟨0, by omega, rfl, fr_refl, fun x hx => absurd hx (by omega), fun _ _ => rfl⟩
  rintro m ⟨x18, M19⟩ ⟨i, hi, e1, f, h1, h2⟩
  replace e1 : x18 = nI i := e1
  replace f : fr (2 ^ 14) [] M M19 := f
  replace h1 : CB (fun i => im_i M19 14 (200 * a + i)) (fun i => 16 * hxN (B (2 * i)) + hxN (B (2 * i + 1))) i := h1
  replace h2 : ∀ p, ¬ (200 * a ≤ p ∧ p < 200 * a + i) → im_i M19 14 p = im_i M 14 p := h2
  subst e1
  show ed (f_HOrders_addCopy_L118 (nI s) (nI (200 * a)) (nI i) M19) _
  unfold f_HOrders_addCopy_L118
  rw [if_nIl (by omega) (by omega)]
  by_cases c : s ≤ i
  · rw [if_pos c]
    obtain rfl : i = s := by omega
    exact lpo_r ⟨f, h1, h2⟩
  · have e12 : im_i M19 12 = im_i M 12 := fr_c f 12 (by decide) (by decide)
    have e2 : (2 : Int32) * nI i = nI (2 * i) := nI_m 2
    have e3 : nI (2 * i) + 1 = nI (2 * i + 1) := nI_add _ 1
    have ea : nI (200 * a) + nI i = nI (200 * a + i) := nI_add _ _
    have hv : ∀ j, j < n → hxN (B j) < 16 ∧ f_HTape_hexValue (im_i M 12 j) M19 = some (nI (hxN (B j))) := fun j hj => by
      obtain ⟨h, hh, e⟩ := hx j hj
      have hh2 := hx_h hh e
      obtain ⟨b1, b2, b3⟩ := hB j hj
      obtain ⟨u, hu, eu, _, hx, _, _⟩ := isB_u b3 rfl
      have ub : u = B j := by
        rw [b2] at eu
        exact ((nI_eq (by omega) (by omega)).mp eu).symm
      rw [hx M19, ub, ← hh2.2]
      exact ⟨by rw [hh2.1]; exact hh, rfl⟩
    have v1 := hv (2 * i) (by omega)
    have v2 := hv (2 * i + 1) (by omega)
    rw [if_neg c, e2, e3, ea, e12, gd_pos (by rw [inb_nI (by omega)]; omega), nI_clamp (by omega), v1.2, bd1_s, gd_pos (by rw [inb_nI (by omega)]; omega), nI_clamp (by omega), v2.2, bd1_s, gd_pos (by rw [inb_nI (by omega)]; omega), nI_clamp (by omega), nI_m, nI_add]
    refine lpo_l (m - 1) (by omega) ⟨i + 1, by omega, nI_add i 1, fr_I (by decide) f, fun j hj => ?_, fun p hp => ?_⟩
    · show (16 * hxN (B (2 * j)) + hxN (B (2 * j + 1))) < 256 ∧ (if 200 * a + j = 200 * a + i then _ else im_i M19 14 (200 * a + j)) &&& 255 = nI (16 * hxN (B (2 * j)) + hxN (B (2 * j + 1))) ∧ isB (if 200 * a + j = 200 * a + i then _ else im_i M19 14 (200 * a + j))
      by_cases e : j = i
      · subst e
        rw [if_pos rfl]
        exact ⟨by omega, nar_by ⟨16 * hxN (B (2 * j)) + hxN (B (2 * j + 1)), by omega⟩, isB_nar⟩
      · rw [if_neg (by omega)]
        exact h1 j (by omega)
    · show (if p = 200 * a + i then _ else im_i M19 14 p) = _
      rw [if_neg (by omega)]
      exact h2 p (by omega)
/-- one more order -/
theorem COK_s {M R : im_M} {A : List (FDt × OD × Nat)} {z : FDt × OD × Nat} (h : COK M A) (hz : ZV z) (h11 : im_i R 11 3 = nI (A.length + 1)) (h13 : ∀ p, p < 14 * A.length → im_i R 13 p = im_i M 13 p) (r13 : ∀ u, u < 9 → im_i R 13 (14 * A.length + u) = zR z u) (h14 : ∀ p, p < 200 * A.length → im_i R 14 p = im_i M 14 p) (r14 : CB (fun i => im_i R 14 (200 * A.length + i)) (zB z) z.2.1.2.1.2) : COK R (A ++ [z]) := by
  refine ⟨by rw [h11, List.length_append]; rfl, fun k y hy => ?_⟩
  by_cases c : k < A.length
  · rw [List.getElem?_append_left c] at hy
    obtain ⟨hv, a, b⟩ := h.2 k y hy
    have sz := (od_in hv.1 hv.2.1).1
    refine ⟨hv, fun u hu => ?_, fun i hi => ?_⟩
    · rw [h13 _ (by omega)]
      exact a u hu
    · show zB y i < 256 ∧ im_i R 14 (200 * k + i) &&& 255 = _ ∧ isB (im_i R 14 (200 * k + i))
      rw [h14 _ (by omega)]
      exact b i hi
  · rw [List.getElem?_append_right (by omega)] at hy
    by_cases e : k = A.length
    · subst e
      rw [Nat.sub_self] at hy
      have hy : some z = some y := hy
      cases hy
      exact ⟨hz, r13, r14⟩
    · rw [List.getElem?_eq_none (by show 1 ≤ k - A.length; omega)] at hy
      cases hy
theorem s_addCopy {M : im_M} {A : List (FDt × OD × Nat)} {F : FDt} {o : OD} {k s c : Nat} (hA : COK M A) (hl : A.length < 120) (hk : k < 140) (hF : FV F) (ho : o ∈ fO F) (hs : s ≤ 120) (hc : c ≤ 12) (hr : ∀ u, u < 14 → im_i M 21 (14 * k + u) = rw1 F.1 s (F.1 7) (F.1 8) (F.1 9) (nI F.2.2.2.1) o u) (hb : CB (fun i => im_i M 22 (200 * s + i)) F.2.1 F.2.2.2.1) : ed (f_HOrders_addCopy (nI k) (nI c) M) (fun R => fr (2 ^ 12 ||| 2 ^ 13 ||| 2 ^ 14) [(11, 3)] M R ∧ COK R (A ++ [(F, o, c)])) := by
  have hn := hF.1.2.2.2
  have oi := od_in hF ho
  have nn : ∀ z : Nat, z < 100000 → ¬ nI z < 0 := fun z hz => by
    have : (nI z < 0) = (z < 0) := nIlt (c := 0) (by omega) (by omega)
    rw [this]; omega
  have c0 : Int32.toNatClampNeg 0 = 0 := rfl
  have c14 : Int32.toNatClampNeg 14 = 14 := rfl
  have e200 : ∀ z : Nat, nI z * 200 = nI (200 * z) := fun z => by rw [nI_n, nI_mul, Nat.mul_comm]
  unfold f_HOrders_addCopy
  rw [hA.1, k14, k14, gd_pos (show cpy (nI (14 * k)) 1960 (nI (14 * A.length)) 1680 14 from ⟨nn _ (by omega), nn _ (by omega), by decide, by rw [nI_clamp (by omega), c14]; omega, by rw [nI_clamp (by omega), c14]; omega⟩), nI_clamp (by omega), nI_clamp (by omega), c14]
  obtain ⟨M1, h1⟩ : ∃ N, N = im_setA M 13 (va_cpy (im_i M 21) (im_i M 13) (14 * k) (14 * A.length) 14) := ⟨_, rfl⟩
  have f1 : fr (2 ^ 13) [] M M1 := by rw [h1]; exact fr_A (by decide) fr_refl
  have v1 : ∀ p, im_i M1 13 p = if 14 * A.length ≤ p ∧ p < 14 * A.length + 14 then im_i M 21 (14 * k + (p - 14 * A.length)) else im_i M 13 p := fun p => by rw [h1]; rfl
  rw [← h1]
  clear h1
  have a21 : im_i M1 21 = im_i M 21 := fr_c f1 21 (by decide) (by decide)
  have w13 : f_HOrders_value (nI k) 13 M1 = some (nI F.2.2.2.1) := by rw [show (13 : Int32) = nI 13 from rfl, s_value hk (by omega), a21, hr 13 (by omega)]; rfl
  have w10 : f_HOrders_value (nI k) 10 M1 = some (nI s) := by rw [show (10 : Int32) = nI 10 from rfl, s_value hk (by omega), a21, hr 10 (by omega)]; rfl
  rw [w13, bd1_s, w10, bd1_s, e200, gd_pos (show cpy (nI (200 * s)) 28000 0 200 (nI F.2.2.2.1) from ⟨nn _ (by omega), by decide, nn _ (by omega), by rw [nI_clamp (by omega), nI_clamp (by omega)]; omega, by rw [nI_clamp (by omega), c0]; omega⟩), nI_clamp (by omega), nI_clamp (by omega), c0]
  obtain ⟨M2, h2⟩ : ∃ N, N = im_setA M1 12 (va_cpy (im_i M1 22) (im_i M1 12) (200 * s) 0 F.2.2.2.1) := ⟨_, rfl⟩
  have f2 : fr (2 ^ 12) [] M1 M2 := by rw [h2]; exact fr_A (by decide) fr_refl
  have v2 : ∀ p, im_i M2 12 p = if 0 ≤ p ∧ p < 0 + F.2.2.2.1 then im_i M1 22 (200 * s + (p - 0)) else im_i M1 12 p := fun p => by rw [h2]; rfl
  rw [← h2]
  clear h2
  have b22 : im_i M1 22 = im_i M 22 := fr_c f1 22 (by decide) (by decide)
  have b21 : im_i M2 21 = im_i M 21 := (fr_c f2 21 (by decide) (by decide)).trans a21
  have cb2 : CB (im_i M2 12) F.2.1 F.2.2.2.1 := fun i hi => by
    rw [v2, if_pos (by omega), b22]
    exact hb i hi
  have w11 : f_HOrders_value (nI k) 11 M2 = some (nI (fct F)) := by rw [show (11 : Int32) = nI 11 from rfl, s_value hk (by omega), b21, hr 11 (by omega)]; exact congrArg some hF.2.1.1
  have ct0 : (nI (fct F) = 0) = (fct F = 0) := nIe (c := 0) (by have := hF.2.1.2.1; omega) (by omega)
  rw [w11, bd1_s]
  simp only [ct0]
  have key : ∃ M7, (if fct F = 0 then some M2 else bd1 (f_HOrders_value (nI k) 12 M2) fun (x5 : Int32) => bd1 (f_HOrders_countOn (nI F.2.2.2.1) ((Int32.toInt64 x5) * (Int32.toInt64 (nI c))) M2) fun (M6 : im_M) => some M6) = some M7 ∧ fr (2 ^ 12) [] M2 M7 ∧ CB (im_i M7 12) (zC (F, o, c)) F.2.2.2.1 := by
    by_cases d : fct F = 0
    · rw [if_pos d]
      refine ⟨M2, rfl, fr_refl, fun i hi => ?_⟩
      have : zC (F, o, c) i = F.2.1 i := by unfold zC cpB; rw [if_pos d]
      rw [this]
      exact cb2 i hi
    · rw [if_neg d]
      have w12 : f_HOrders_value (nI k) 12 M2 = some (iZ (fsp F)) := by
        rw [show (12 : Int32) = nI 12 from rfl, s_value hk (by omega), b21, hr 12 (by omega)]
        exact congrArg some (Int32.ofInt_toInt _).symm
      obtain ⟨st1, st2⟩ : -99 ≤ fsp F ∧ fsp F ≤ 99 := ⟨hF.2.1.2.2.1, hF.2.1.2.2.2.1⟩
      have sc : -1188 ≤ fsp F * (c : Int) ∧ fsp F * (c : Int) ≤ 1188 := by
        have hc' : (0 : Int) ≤ (c : Int) ∧ (c : Int) ≤ 12 := by omega
        constructor
        · have : -99 * (c : Int) ≤ fsp F * (c : Int) := Int.mul_le_mul_of_nonneg_right st1 hc'.1
          omega
        · have : fsp F * (c : Int) ≤ 99 * (c : Int) := Int.mul_le_mul_of_nonneg_right st2 hc'.1
          omega
      have em : (iZ (fsp F)).toInt64 * (nI c).toInt64 = lZ (fsp F * (c : Int)) := by rw [iZ_nI, iZ_l (by omega), iZ_l (by omega), lZ_mul]
      obtain ⟨M7, e7, f7, h7⟩ := s_countOn (M := M2) (sc := fsp F * (c : Int)) hn cb2 (by omega)
      rw [w12, bd1_s, em, e7, bd1_s]
      refine ⟨M7, rfl, f7, fun i hi => ?_⟩
      have : zC (F, o, c) i = cnB F.2.1 F.2.2.2.1 (fsp F * (c : Int)) i := by unfold zC cpB; rw [if_neg d]
      rw [this]
      exact h7 i hi
  obtain ⟨M7, e7, f7, cb7⟩ := key
  rw [e7, bd1_s]
  have d21 : im_i M7 21 = im_i M 21 := (fr_c f7 21 (by decide) (by decide)).trans b21
  have w8 : f_HOrders_value (nI k) 8 M7 = some (nI o.2.1.2) := by rw [show (8 : Int32) = nI 8 from rfl, s_value hk (by omega), d21, hr 8 (by omega)]; rfl
  have w0 : f_HOrders_value (nI k) 0 M7 = some o.1.1 := by rw [show (0 : Int32) = nI 0 from rfl, s_value hk (by omega), d21, hr 0 (by omega)]; rfl
  have w9 : f_HOrders_value (nI k) 9 M7 = some (nI o.2.1.1) := by rw [show (9 : Int32) = nI 9 from rfl, s_value hk (by omega), d21, hr 9 (by omega)]; rfl
  have f17 : fr (2 ^ 12 ||| 2 ^ 13) [] M M7 := fr_tr (fr_mono (by decide) (by decide) f7) (fr_tr (fr_mono (by decide) (by decide) f2) (fr_mono (by decide) (by decide) f1))
  have a11 : im_i M7 11 3 = nI A.length := (f17.1 11 3 (by decide) (by decide)).trans hA.1
  have a13 : im_i M7 13 = im_i M1 13 := (fr_c f7 13 (by decide) (by decide)).trans (fr_c f2 13 (by decide) (by decide))
  have a14 : im_i M7 14 = im_i M 14 := fr_c f17 14 (by decide) (by decide)
  rw [w8, bd1_s, w0, bd1_s, w9, bd1_s, a11, e200]
  have key2 : ∃ M23, (if ¬ o.1.1 = 7 then gd (cpy (nI o.2.1.1) 200 (nI (200 * A.length)) 24000 (nI o.2.1.2)) <| some (im_setA M7 14 (va_cpy (im_i M7 12) (im_i M7 14) (Int32.toNatClampNeg (nI o.2.1.1)) (Int32.toNatClampNeg (nI (200 * A.length))) (Int32.toNatClampNeg (nI o.2.1.2)))) else bd1 (lp (uc2 (f_HOrders_addCopy_L118 (nI o.2.1.2) (nI (200 * A.length)))) (0, M7)) fun (M22 : im_M) => some M22) = some M23 ∧ fr (2 ^ 14) [] M7 M23 ∧ CB (fun i => im_i M23 14 (200 * A.length + i)) (zB (F, o, c)) o.2.1.2 ∧ ∀ p, p < 200 * A.length → im_i M23 14 p = im_i M7 14 p := by
    by_cases d : o.1.1 = 7
    · obtain ⟨k7, o1, o2⟩ := oi.2.2 d
      have dt := hF.2.2.2.2.2.2.2.2.2 k7
      have hx : ∀ i, i < F.2.2.2.1 → ∃ h, h < 16 ∧ hvN (zC (F, o, c) i) = nI h := fun i hi => (zC_k (z := (F, o, c)) hF hi).2.2.2.2 (dt.1 i hi)
      rw [if_neg (fun z => z d)]
      obtain ⟨r, er, fr_, h1, h2⟩ := s_hexRow (M := M7) (a := A.length) (s := o.2.1.2) cb7 hn (by omega) hx hl
      rw [er, bd1_s]
      refine ⟨r, rfl, fr_, fun i hi => ?_, fun p hp => h2 p (by omega)⟩
      have : zB (F, o, c) i = 16 * hxN (zC (F, o, c) (2 * i)) + hxN (zC (F, o, c) (2 * i + 1)) := by unfold zB; rw [if_pos d]
      rw [this]
      exact h1 i hi
    · have hle := oi.2.1 d
      rw [if_pos d, gd_pos (show cpy (nI o.2.1.1) 200 (nI (200 * A.length)) 24000 (nI o.2.1.2) from ⟨nn _ (by omega), nn _ (by omega), nn _ (by omega), by rw [nI_clamp (by omega), nI_clamp (by omega)]; omega, by rw [nI_clamp (by omega), nI_clamp (by omega)]; omega⟩), nI_clamp (by omega), nI_clamp (by omega), nI_clamp (by omega)]
      refine ⟨_, rfl, fr_A (by decide) fr_refl, fun i hi => ?_, fun p hp => ?_⟩
      · have : zB (F, o, c) i = zC (F, o, c) (o.2.1.1 + i) := by unfold zB; rw [if_neg d]
        rw [this]
        show _ ∧ (if 200 * A.length ≤ 200 * A.length + i ∧ 200 * A.length + i < 200 * A.length + o.2.1.2 then im_i M7 12 (o.2.1.1 + (200 * A.length + i - 200 * A.length)) else _) &&& 255 = _ ∧ isB (if 200 * A.length ≤ 200 * A.length + i ∧ 200 * A.length + i < 200 * A.length + o.2.1.2 then im_i M7 12 (o.2.1.1 + (200 * A.length + i - 200 * A.length)) else _)
        rw [if_pos (by omega), Nat.add_sub_cancel_left]
        exact cb7 (o.2.1.1 + i) (by omega)
      · show (if 200 * A.length ≤ p ∧ p < 200 * A.length + o.2.1.2 then _ else im_i M7 14 p) = _
        rw [if_neg (by omega)]
  obtain ⟨M23, e23, f23, cb23, g23⟩ := key2
  rw [e23, bd1_s]
  have fA : fr (2 ^ 12 ||| 2 ^ 13 ||| 2 ^ 14) [(11, 3)] M M23 := fr_tr (fr_mono (by decide) (by decide) f23) (fr_mono (by decide) (by decide) f17)
  have b13 : im_i M23 13 = im_i M1 13 := (fr_c f23 13 (by decide) (by decide)).trans a13
  refine ed_mk ⟨fr_F (by decide) fA, COK_s hA ⟨hF, ho, hc⟩ ?_ (fun p hp => ?_) (fun u hu => ?_) (fun p hp => ?_) cb23⟩
  · show im_i M23 11 3 + 1 = _
    rw [f23.1 11 3 (by decide) (by decide), a11]
    exact nI_add _ 1
  · show im_i M23 13 p = _
    rw [b13, v1, if_neg (by omega)]
  · show im_i M23 13 _ = _
    rw [b13, v1, if_pos (by omega), Nat.add_sub_cancel_left, hr u (by omega), rw1_9 (c := c) hu]
  · show im_i M23 14 p = _
    rw [g23 p hp, a14]
