/-! THE REFERENCE LOOKS FOR WRONG PLACES -/
theorem two_lp {M : im_M} {m : Nat} (hm : m < 255) : lp (uc2 (f_MSquareRows_two_L24 (nI m) M)) (1, 0) = some (nI (pwN m)) := by
  refine lp_row (fun i => (nI (pwN i), nI i)) m (fun i hi => ?_) ?_
  · show f_MSquareRows_two_L24 (nI m) M (nI (pwN i)) (nI i) = some (Sum.inl (nI (xt (pwN i)), nI (i + 1)))
    unfold f_MSquareRows_two_L24
    rw [if_nIl (by omega) (by omega), if_neg (by omega), xt_r ⟨pwN i, pw_lt i⟩]
    exact congrArg (fun z => some (Sum.inl (_, z))) (nI_add i 1)
  · show f_MSquareRows_two_L24 (nI m) M (nI (pwN m)) (nI m) = _
    unfold f_MSquareRows_two_L24
    rw [if_nIl (by omega) (by omega), if_pos (by omega)]
theorem s_twoK {M : im_M} {k : Nat} (hk : k < 2147483648) : f_MSquareRows_two (nI k) M = some (nI (al k).val) := by
  have r : nI k - nI k / 255 * 255 = nI (k % 255) := nI_rem (b := 255) hk (by omega) (by omega)
  have k0 : (0 : Int32) ≤ nI (k % 255) := by
    have : ((0 : Int32) ≤ nI (k % 255)) = (0 ≤ k % 255) := nIl (x := 0) (by omega) (by omega)
    rw [this]; omega
  unfold f_MSquareRows_two
  rw [r, if_pos k0, two_lp (by omega), bd1_s, pw_mod]
  rfl
theorem s_twoN {M : im_M} {p : Nat} (hp : p < 255) : f_MSquareRows_two (iZ (-(p : Int))) M = some (nI (al (255 - p)).val) := by
  have d : iZ (-(p : Int)) / 255 = iZ 0 := by
    have e : (-(p : Int)).tdiv 255 = 0 := by rw [Int.neg_tdiv]; rw [Int.tdiv_eq_zero_of_lt (by omega) (by omega)]; rfl
    have := iZ_div (a := -(p : Int)) (b := 255) (by omega) (by omega) (by rw [e]; omega)
    rw [e] at this
    exact this
  have r : iZ (-(p : Int)) - iZ (-(p : Int)) / 255 * 255 = iZ (-(p : Int)) := by
    rw [d, show iZ 0 * 255 = iZ 0 from rfl, iZ_sub]
    congr 1
    omega
  unfold f_MSquareRows_two
  rw [r]
  by_cases c : p = 0
  · subst c
    rw [if_pos (by decide), show iZ (-((0 : Nat) : Int)) = nI 0 from rfl, two_lp (by omega), bd1_s, Nat.sub_zero, al_255]
    rfl
  · have k0 : ¬ (0 : Int32) ≤ iZ (-(p : Int)) := by
      rw [show (0 : Int32) = iZ 0 from rfl, iZ_le (by omega) (by omega)]
      omega
    have e2 : iZ (-(p : Int)) + 255 = nI (255 - p) := by
      rw [show (255 : Int32) = iZ 255 from rfl, iZ_add, iZ_nI]
      congr 1
      omega
    rw [if_neg k0, e2, two_lp (by omega), bd1_s]
    rfl
theorem s_isZ {M : im_M} {n c : Nat} {W : Nat → Fin 256} (hn : n ≤ 255) (hc : c ≤ 30) (hW : AF (im_i M 121) W n) : ed (f_MSquareRows_isZero (nI n) (nI c) M) (fun r => r.1 = (if flg W n c = true then 1 else 0) ∧ AF (im_i r.2 123) (fun k => hsy W k n) c ∧ fr (2 ^ 123) [] M r.2) := by
  unfold f_MSquareRows_isZero
  apply bd2_mk
  refine ed_mono (lp_for (S := Unit) (fun i _ (t : Int32 × Int32 × im_M) => t.1 = (if flg W n i = true then 1 else 0) ∧ t.2.1 = nI i ∧ AF (im_i t.2.2 123) (fun k => hsy W k n) i ∧ fr (2 ^ 123) [] M t.2.2) (Q := fun _ (r : Int32 × im_M) => r.1 = (if flg W n c = true then 1 else 0) ∧ AF (im_i r.2 123) (fun k => hsy W k n) c ∧ fr (2 ^ 123) [] M r.2) c (fun _ s => s) ?_ ?_ (s := ()) (t := (1, 0, M)) ⟨rfl, rfl, fun j hj => by omega, fr_refl⟩) ?_
  · rintro i s ⟨x3, x4, M5⟩ hi ⟨e1, e2, e3, hf⟩
    replace e1 : x3 = (if flg W n i = true then 1 else 0) := e1
    replace e2 : x4 = nI i := e2
    replace e3 : AF (im_i M5 123) (fun k => hsy W k n) i := e3
    replace hf : fr (2 ^ 123) [] M M5 := hf
    subst e2
    have w5 : im_i M5 121 = im_i M 121 := fr_ar hf (by decide)
    show ed (f_MSquareRows_isZero_L6 (nI n) (nI c) x3 (nI i) M5) _
    unfold f_MSquareRows_isZero_L6
    have hr : lp (uc2 (f_MSquareRows_isZero_L25 (nI n) (nI c) x3 (nI i) (nI (al i).val) M5)) (0, 0) = some (nI (hsy W i n).val) := by
      refine lp_row (fun j => (nI (hsy W i j).val, nI j)) n (fun j hj => ?_) ?_
      · show f_MSquareRows_isZero_L25 (nI n) (nI c) x3 (nI i) (nI (al i).val) M5 (nI (hsy W i j).val) (nI j) = some (Sum.inl (nI (ga (gx (hsy W i j) (al i)) (W j)).val, nI (j + 1)))
        unfold f_MSquareRows_isZero_L25
        rw [if_nIl (by omega) (by omega), if_neg (by omega), tRf, bd1_s, gd_pos (by rw [inb_nI (by omega)]; omega), nI_clamp (by omega), w5, hW j hj, nX]
        exact congrArg (fun z => some (Sum.inl (_, z))) (nI_add j 1)
      · show f_MSquareRows_isZero_L25 (nI n) (nI c) x3 (nI i) (nI (al i).val) M5 (nI (hsy W i n).val) (nI n) = _
        unfold f_MSquareRows_isZero_L25
        rw [if_nIl (by omega) (by omega), if_pos (by omega)]
    rw [if_nIl (by omega) (by omega), if_neg (by omega), s_twoK (by omega), bd1_s, hr, bd1_s, gd_pos (by rw [inb_nI (by omega)]; omega), nI_clamp (by omega)]
    refine ed_mk ⟨_, rfl, ?_, nI_add i 1, fun j hj => ?_, fr_I (by decide) hf⟩
    · show (if x3 = 0 then (0 : Int32) else (if ¬ nI (hsy W i n).val = 0 then (0 : Int32) else 1)) = if (flg W n i && decide (hsy W i n = 0)) = true then 1 else 0
      rw [e1]
      simp only [nZ]
      by_cases a : flg W n i = true
      · by_cases b : hsy W i n = 0
        · simp [a, b]
        · simp [a, b]
      · by_cases b : hsy W i n = 0
        · simp [a, b]
        · simp [a, b]
    · show im_i (im_setI M5 123 i (nI (hsy W i n).val)) 123 j = _
      by_cases e : j = i
      · subst e; exact hit
      · rw [sk1 (by omega)]; exact e3 j (by omega)
  · rintro s ⟨x3, x4, M5⟩ ⟨e1, e2, e3, hf⟩
    replace e2 : x4 = nI c := e2
    replace hf : fr (2 ^ 123) [] M M5 := hf
    subst e2
    show ed (f_MSquareRows_isZero_L6 (nI n) (nI c) x3 (nI c) M5) _
    unfold f_MSquareRows_isZero_L6
    rw [if_nIl (by omega) (by omega), if_pos (by omega)]
    exact ed_mk ⟨_, rfl, e1, e3, hf⟩
  · rintro ⟨a, M1⟩ ⟨h1, h2, h3⟩
    show ed (gd (a = 0 ∨ a = 1) (some (a, M1))) _
    replace h1 : a = if flg W n c = true then 1 else 0 := h1
    rw [gd_pos (by rw [h1]; split; exact Or.inr rfl; exact Or.inl rfl)]
    exact ed_mk ⟨h1, h2, h3⟩
theorem s_isZ1 {M : im_M} {n c : Nat} {W : Nat → Fin 256} (hn : n ≤ 255) (hc : c ≤ 30) (hW : AF (im_i M 122) W n) : ed (f_MSquareRows_isZero_1 (nI n) (nI c) M) (fun r => r.1 = (if flg W n c = true then 1 else 0) ∧ AF (im_i r.2 123) (fun k => hsy W k n) c ∧ fr (2 ^ 123) [] M r.2) := by
  unfold f_MSquareRows_isZero_1
  apply bd2_mk
  refine ed_mono (lp_for (S := Unit) (fun i _ (t : Int32 × Int32 × im_M) => t.1 = (if flg W n i = true then 1 else 0) ∧ t.2.1 = nI i ∧ AF (im_i t.2.2 123) (fun k => hsy W k n) i ∧ fr (2 ^ 123) [] M t.2.2) (Q := fun _ (r : Int32 × im_M) => r.1 = (if flg W n c = true then 1 else 0) ∧ AF (im_i r.2 123) (fun k => hsy W k n) c ∧ fr (2 ^ 123) [] M r.2) c (fun _ s => s) ?_ ?_ (s := ()) (t := (1, 0, M)) ⟨rfl, rfl, fun j hj => by omega, fr_refl⟩) ?_
  · rintro i s ⟨x3, x4, M5⟩ hi ⟨e1, e2, e3, hf⟩
    replace e1 : x3 = (if flg W n i = true then 1 else 0) := e1
    replace e2 : x4 = nI i := e2
    replace e3 : AF (im_i M5 123) (fun k => hsy W k n) i := e3
    replace hf : fr (2 ^ 123) [] M M5 := hf
    subst e2
    have w5 : im_i M5 122 = im_i M 122 := fr_ar hf (by decide)
    show ed (f_MSquareRows_isZero_1_L6 (nI n) (nI c) x3 (nI i) M5) _
    unfold f_MSquareRows_isZero_1_L6
    have hr : lp (uc2 (f_MSquareRows_isZero_1_L25 (nI n) (nI c) x3 (nI i) (nI (al i).val) M5)) (0, 0) = some (nI (hsy W i n).val) := by
      refine lp_row (fun j => (nI (hsy W i j).val, nI j)) n (fun j hj => ?_) ?_
      · show f_MSquareRows_isZero_1_L25 (nI n) (nI c) x3 (nI i) (nI (al i).val) M5 (nI (hsy W i j).val) (nI j) = some (Sum.inl (nI (ga (gx (hsy W i j) (al i)) (W j)).val, nI (j + 1)))
        unfold f_MSquareRows_isZero_1_L25
        rw [if_nIl (by omega) (by omega), if_neg (by omega), tRf, bd1_s, gd_pos (by rw [inb_nI (by omega)]; omega), nI_clamp (by omega), w5, hW j hj, nX]
        exact congrArg (fun z => some (Sum.inl (_, z))) (nI_add j 1)
      · show f_MSquareRows_isZero_1_L25 (nI n) (nI c) x3 (nI i) (nI (al i).val) M5 (nI (hsy W i n).val) (nI n) = _
        unfold f_MSquareRows_isZero_1_L25
        rw [if_nIl (by omega) (by omega), if_pos (by omega)]
    rw [if_nIl (by omega) (by omega), if_neg (by omega), s_twoK (by omega), bd1_s, hr, bd1_s, gd_pos (by rw [inb_nI (by omega)]; omega), nI_clamp (by omega)]
    refine ed_mk ⟨_, rfl, ?_, nI_add i 1, fun j hj => ?_, fr_I (by decide) hf⟩
    · show (if x3 = 0 then (0 : Int32) else (if ¬ nI (hsy W i n).val = 0 then (0 : Int32) else 1)) = if (flg W n i && decide (hsy W i n = 0)) = true then 1 else 0
      rw [e1]
      simp only [nZ]
      by_cases a : flg W n i = true
      · by_cases b : hsy W i n = 0
        · simp [a, b]
        · simp [a, b]
      · by_cases b : hsy W i n = 0
        · simp [a, b]
        · simp [a, b]
    · show im_i (im_setI M5 123 i (nI (hsy W i n).val)) 123 j = _
      by_cases e : j = i
      · subst e; exact hit
      · rw [sk1 (by omega)]; exact e3 j (by omega)
  · rintro s ⟨x3, x4, M5⟩ ⟨e1, e2, e3, hf⟩
    replace e2 : x4 = nI c := e2
    replace hf : fr (2 ^ 123) [] M M5 := hf
    subst e2
    show ed (f_MSquareRows_isZero_1_L6 (nI n) (nI c) x3 (nI c) M5) _
    unfold f_MSquareRows_isZero_1_L6
    rw [if_nIl (by omega) (by omega), if_pos (by omega)]
    exact ed_mk ⟨_, rfl, e1, e3, hf⟩
  · rintro ⟨a, M1⟩ ⟨h1, h2, h3⟩
    show ed (gd (a = 0 ∨ a = 1) (some (a, M1))) _
    replace h1 : a = if flg W n c = true then 1 else 0 := h1
    rw [gd_pos (by rw [h1]; split; exact Or.inr rfl; exact Or.inl rfl)]
    exact ed_mk ⟨h1, h2, h3⟩
/-- the equations for the locator -/
def HA (sy : Nat → Fin 256) (n r k : Nat) : Fin 256 := if k < n then sy (n + r - 1 - k) else sy (n + r)
theorem s_hankel {M : im_M} {sy : Nat → Fin 256} {n c : Nat} {v3 : Int32} (hn : n ≤ 15) (hc : 2 * n ≤ c) (hc2 : c ≤ 30) (h1 : 1 ≤ n) (hS : AF (im_i M 123) sy c) : ed (lp (uc2 (f_MSquareRows_finds_L2 (nI n) v3)) (0, M)) (fun R => SYm R (HA sy n) n ∧ fr (2 ^ 124) [] M R) := by
  refine lp_for (S := Unit) (fun j _ (t : Int32 × im_M) => t.1 = nI j ∧ (∀ r k, r < j → k ≤ n → im_i t.2 124 (17 * r + k) = nI (HA sy n r k).val) ∧ fr (2 ^ 124) [] M t.2) (Q := fun _ R => SYm R (HA sy n) n ∧ fr (2 ^ 124) [] M R) n (fun _ s => s) ?_ ?_ (s := ()) ⟨rfl, fun r k hr => by omega, fr_refl⟩
  · rintro j s ⟨x, M5⟩ hj ⟨e, h, hf⟩
    replace e : x = nI j := e
    replace h : ∀ r k, r < j → k ≤ n → im_i M5 124 (17 * r + k) = nI (HA sy n r k).val := h
    replace hf : fr (2 ^ 124) [] M M5 := hf
    subst e
    show ed (f_MSquareRows_finds_L2 (nI n) v3 (nI j) M5) _
    unfold f_MSquareRows_finds_L2
    rw [if_nIl (by omega) (by omega), if_neg (by omega)]
    apply bd1_mk
    refine ed_mono (lp_for (S := Unit) (fun q _ (t : Int32 × im_M) => t.1 = nI q ∧ (∀ r k, (r < j ∧ k ≤ n) ∨ (r = j ∧ k < q) → im_i t.2 124 (17 * r + k) = nI (HA sy n r k).val) ∧ fr (2 ^ 124) [] M t.2) (Q := fun _ R => (∀ r k, (r < j ∧ k ≤ n) ∨ (r = j ∧ k < n) → im_i R 124 (17 * r + k) = nI (HA sy n r k).val) ∧ fr (2 ^ 124) [] M R) n (fun _ s => s) ?_ ?_ (s := ()) (t := (0, M5)) ⟨rfl, fun r k z => ?_, hf⟩) ?_
    · rintro q s ⟨x, M1⟩ hq ⟨e, h1, hf1⟩
      replace e : x = nI q := e
      replace h1 : ∀ r k, (r < j ∧ k ≤ n) ∨ (r = j ∧ k < q) → im_i M1 124 (17 * r + k) = nI (HA sy n r k).val := h1
      replace hf1 : fr (2 ^ 124) [] M M1 := hf1
      subst e
      show ed (f_MSquareRows_finds_L10 (nI n) v3 (nI j) (nI q) M1) _
      unfold f_MSquareRows_finds_L10
      have ej : (17 : Int32) * nI j + nI q = nI (17 * j + q) := by rw [nI_m, nI_add]
      have ev : nI n + nI j - 1 - nI q = nI (n + j - 1 - q) := by rw [nI_add, nI_s1 (by omega) (by omega)]
      rw [if_nIl (by omega) (by omega), if_neg (by omega), ev, ej, gd_pos (by rw [inb_nI (by omega)]; omega), gd_pos (by rw [inb_nI (by omega)]; omega), nI_clamp (by omega), nI_clamp (by omega), fr_at hf1 (a := 123) (by decide), hS _ (by omega)]
      refine ed_mk ⟨_, rfl, nI_add q 1, fun r k z => ?_, fr_I (by decide) hf1⟩
      show im_i (im_setI M1 124 (17 * j + q) _) 124 (17 * r + k) = _
      by_cases d : r = j ∧ k = q
      · obtain ⟨rfl, rfl⟩ := d
        rw [hit]
        unfold HA
        rw [if_pos hq]
      · rw [sk1 (by omega)]
        exact h1 r k (by omega)
    · rintro s ⟨x, M1⟩ ⟨e, h1, hf1⟩
      replace e : x = nI n := e
      subst e
      show ed (f_MSquareRows_finds_L10 (nI n) v3 (nI j) (nI n) M1) _
      unfold f_MSquareRows_finds_L10
      rw [if_nIl (by omega) (by omega), if_pos (by omega)]
      exact ed_mk ⟨_, rfl, h1, hf1⟩
    · exact h r k (by omega) (by omega)
    · rintro R ⟨r1, r2⟩
      have ej : (17 : Int32) * nI j + nI n = nI (17 * j + n) := by rw [nI_m, nI_add]
      rw [nI_add, ej, gd_pos (by rw [inb_nI (by omega)]; omega), gd_pos (by rw [inb_nI (by omega)]; omega), nI_clamp (by omega), nI_clamp (by omega), fr_at r2 (a := 123) (by decide), hS _ (by omega)]
      refine ed_mk ⟨_, rfl, nI_add j 1, fun r k hr hk => ?_, fr_I (by decide) r2⟩
      show im_i (im_setI R 124 (17 * j + n) _) 124 (17 * r + k) = _
      by_cases d : r = j ∧ k = n
      · obtain ⟨rfl, rfl⟩ := d
        rw [hit]
        unfold HA
        rw [if_neg (by omega)]
      · rw [sk1 (by omega)]
        exact r1 r k (by omega)
  · rintro s ⟨x, M5⟩ ⟨e, h, hf⟩
    replace e : x = nI n := e
    subst e
    show ed (f_MSquareRows_finds_L2 (nI n) v3 (nI n) M5) _
    unfold f_MSquareRows_finds_L2
    rw [if_nIl (by omega) (by omega), if_pos (by omega)]
    exact ed_mk ⟨_, rfl, fun r k hr hk => h r k hr hk, hf⟩
/-- the places at which the solution says that something is wrong -/
def rqB (s : Nat → Fin 256) (n N i : Nat) : Bool := decide (gx (zI N i) (ev n s (zI N i)) = 1)
theorem s_hornR {M : im_M} {s : Nat → Fin 256} {n : Nat} {z : Fin 256} {v17 x18 x19 : Int32} (hn : n ≤ 15) (h1 : 1 ≤ n) (hs : AF (im_i M 125) s n) : lp (uc2 (f_MSquareRows_finds_L112 (nI n) v17 x18 x19 (nI z.val) M)) (0, nI n - 1) = some (nI (gx z (ev n s z)).val) := by
  have e0 : ((0 : Int32), nI n - 1) = (fun (i : Nat) => ((if i = 0 then (0 : Int32) else nI (gx z (ev i (fun k => s (n - i + k)) z)).val), iZ ((n : Int) - 1 - (i : Int)))) 0 := by
    show ((0 : Int32), nI n - 1) = (0, iZ ((n : Int) - 1 - ((0 : Nat) : Int)))
    rw [iZ_nI, show (1 : Int32) = iZ 1 from rfl, iZ_sub]
    congr 2
    omega
  rw [e0]
  refine lp_row (fun (i : Nat) => ((if i = 0 then (0 : Int32) else nI (gx z (ev i (fun k => s (n - i + k)) z)).val), iZ ((n : Int) - 1 - (i : Int)))) n (fun i hi => ?_) ?_
  · show f_MSquareRows_finds_L112 (nI n) v17 x18 x19 (nI z.val) M (if i = 0 then (0 : Int32) else nI (gx z (ev i (fun k => s (n - i + k)) z)).val) (iZ ((n : Int) - 1 - (i : Int))) = some (Sum.inl ((if i + 1 = 0 then (0 : Int32) else nI (gx z (ev (i + 1) (fun k => s (n - (i + 1) + k)) z)).val), iZ ((n : Int) - 1 - ((i + 1 : Nat) : Int))))
    have ei : iZ ((n : Int) - 1 - (i : Int)) = nI (n - 1 - i) := by rw [iZ_nI]; congr 1; omega
    have e2 : nI (n - 1 - i) + (-1) = iZ ((n : Int) - 1 - ((i + 1 : Nat) : Int)) := by
      rw [iZ_nI, show (-1 : Int32) = iZ (-1) from rfl, iZ_add]
      congr 1
      omega
    have ez : (if i = 0 then (0 : Int32) else nI (gx z (ev i (fun k => s (n - i + k)) z)).val) = nI (gx z (ev i (fun k => s (n - i + k)) z)).val := by
      by_cases c : i = 0
      · subst c
        rw [if_pos rfl]
        show (0 : Int32) = nI (gx z 0).val
        rw [gx_z]
        rfl
      · rw [if_neg c]
    unfold f_MSquareRows_finds_L112
    rw [ei, ez, if_neg (by rw [show (0 : Int32) = nI 0 from rfl, nIlt (by omega) (by omega)]; omega), gd_pos (by rw [inb_nI (by omega)]; omega), nI_clamp (by omega), hs _ (by omega), nX, tRf, bd1_s, e2, if_neg (show ¬ i + 1 = 0 by omega)]
    congr 4
    rw [gx_comm, ev_s, ga_comm]
    refine congrArg Fin.val ?_
    show gx z (ga (s (n - 1 - i)) (gx z (ev i (fun k => s (n - i + k)) z))) = gx z (ga (s (n - (i + 1) + 0)) (gx z (ev i (fun k => s (n - (i + 1) + (k + 1))) z)))
    rw [show n - (i + 1) + 0 = n - 1 - i by omega, ev_congr z i (fun k => s (n - (i + 1) + (k + 1))) (fun k => s (n - i + k)) (fun k _ => by show s (n - (i + 1) + (k + 1)) = _; rw [show n - (i + 1) + (k + 1) = n - i + k by omega])]
  · show f_MSquareRows_finds_L112 (nI n) v17 x18 x19 (nI z.val) M (if n = 0 then (0 : Int32) else nI (gx z (ev n (fun k => s (n - n + k)) z)).val) (iZ ((n : Int) - 1 - (n : Int))) = _
    unfold f_MSquareRows_finds_L112
    rw [show (n : Int) - 1 - (n : Int) = -1 by omega, if_pos (by decide), if_neg (by omega), ev_congr z n (fun k => s (n - n + k)) s (fun k _ => by show s (n - n + k) = _; rw [show n - n + k = k by omega])]
theorem fl_get {p : Nat → Bool} {i : Nat} (hp : p i = true) : ((List.range (i + 1)).filter p) = (List.range i).filter p ++ [i] := by
  rw [List.range_succ, List.filter_append, List.filter_cons_of_pos hp]
  rfl
theorem fl_not {p : Nat → Bool} {i : Nat} (hp : ¬ p i = true) : ((List.range (i + 1)).filter p) = (List.range i).filter p := by
  rw [List.range_succ, List.filter_append, List.filter_cons_of_neg hp]
  exact List.append_nil _
def PLm (M : im_M) (l : List Nat) : Prop := ∀ j, j < l.length → im_i M 126 j = nI (l.getD j 0)
theorem s_places {M : im_M} {s : Nat → Fin 256} {n N : Nat} (hn : n ≤ 15) (h1 : 1 ≤ n) (hN : N ≤ 255) (hs : AF (im_i M 125) s n) : ed (lp (uc3 (f_MSquareRows_finds_L87 (nI n) (nI N))) (0, 0, M)) (sQ (fun (t : Int32 × im_M) => t.1 = nI ((List.range N).filter (rqB s n N)).length ∧ ((List.range N).filter (rqB s n N)).length ≤ n ∧ PLm t.2 ((List.range N).filter (rqB s n N)) ∧ fr (2 ^ 126) [] M t.2) (fun (t : Int32 × im_M) => t.1 = 0 ∧ n < ((List.range N).filter (rqB s n N)).length ∧ fr (2 ^ 126) [] M t.2)) := by
  refine lp_inv (fun m (t : Int32 × Int32 × im_M) => ∃ i, i + m = N ∧ t.1 = nI ((List.range i).filter (rqB s n N)).length ∧ t.2.1 = nI i ∧ ((List.range i).filter (rqB s n N)).length ≤ n ∧ PLm t.2.2 ((List.range i).filter (rqB s n N)) ∧ fr (2 ^ 126) [] M t.2.2) ?_ (k := N) ⟨0, by omega, rfl, rfl, Nat.zero_le _, fun j hj => absurd hj (Nat.not_lt_zero j), fr_refl⟩
  rintro m ⟨x18, x19, M20⟩ ⟨i, hi, e1, e2, hl, hP, hf⟩
  replace e1 : x18 = nI ((List.range i).filter (rqB s n N)).length := e1
  replace e2 : x19 = nI i := e2
  replace hP : PLm M20 ((List.range i).filter (rqB s n N)) := hP
  replace hf : fr (2 ^ 126) [] M M20 := hf
  subst e1 e2
  show ed (f_MSquareRows_finds_L87 (nI n) (nI N) (nI ((List.range i).filter (rqB s n N)).length) (nI i) M20) _
  unfold f_MSquareRows_finds_L87
  rw [if_nIl (by omega) (by omega)]
  by_cases y : N ≤ i
  · rw [if_pos y]
    obtain rfl : i = N := by omega
    exact lpo_r ⟨rfl, hl, hP, hf⟩
  · have ep : nI i + 1 - nI N = iZ (-((N - 1 - i : Nat) : Int)) := by
      rw [show nI i + 1 = nI (i + 1) from nI_add i 1, iZ_nI, iZ_nI, iZ_sub]
      congr 1
      omega
    have s20 : AF (im_i M20 125) s n := by rw [fr_ar hf (by decide)]; exact hs
    have gl := (gx (zI N i) (ev n s (zI N i))).isLt
    have one : (nI (gx (zI N i) (ev n s (zI N i))).val = 1) = (gx (zI N i) (ev n s (zI N i)) = 1) := by
      rw [show (nI (gx (zI N i) (ev n s (zI N i))).val = 1) = ((gx (zI N i) (ev n s (zI N i))).val = 1) from nIe (c := 1) (by omega) (by omega)]
      exact propext ⟨fun h => Fin.ext h, fun h => by rw [h]; rfl⟩
    rw [if_neg y, ep, s_twoN (by omega), bd1_s, show nI (al (255 - (N - 1 - i))).val = nI (zI N i).val from rfl, s_hornR hn h1 s20, bd1_s]
    simp only [jn2, one]
    by_cases r : gx (zI N i) (ev n s (zI N i)) = 1
    · have rt : rqB s n N i = true := decide_eq_true r
      rw [if_neg (fun z => z r)]
      simp only [nIe (show ((List.range i).filter (rqB s n N)).length < 2147483648 by omega) (show n < 2147483648 by omega)]
      by_cases fl : ((List.range i).filter (rqB s n N)).length = n
      · rw [if_neg (fun z => z fl)]
        refine lpo_r ⟨rfl, ?_, hf⟩
        have : cnt (rqB s n N) (i + 1) ≤ cnt (rqB s n N) N := by
          have : ∀ d, cnt (rqB s n N) (i + 1) ≤ cnt (rqB s n N) (i + 1 + d) := by
            intro d
            induction d with
            | zero => exact Nat.le_refl _
            | succ d ih => exact Nat.le_trans ih (Nat.le_add_right _ _)
          have := this (N - (i + 1))
          rw [show i + 1 + (N - (i + 1)) = N by omega] at this
          exact this
        rw [cnt_len, cnt_len, fl_get rt, List.length_append, fl] at this
        exact this
      · rw [if_pos fl, gd_pos (by rw [inb_nI (by omega)]; omega), nI_clamp (by omega)]
        refine lpo_l (m - 1) (by omega) ⟨i + 1, by omega, ?_, nI_add i 1, ?_, ?_, fr_I (by decide) hf⟩
        · show nI ((List.range i).filter (rqB s n N)).length + 1 = _
          rw [fl_get rt, List.length_append]
          exact nI_add _ 1
        · rw [fl_get rt, List.length_append]
          show _ + 1 ≤ n
          omega
        · rw [fl_get rt]
          intro j hj
          rw [List.length_append] at hj
          replace hj : j < ((List.range i).filter (rqB s n N)).length + 1 := hj
          show im_i (im_setI M20 126 ((List.range i).filter (rqB s n N)).length (nI i)) 126 j = _
          by_cases d : j = ((List.range i).filter (rqB s n N)).length
          · subst d
            rw [hit, List.getD_eq_getElem?_getD, List.getElem?_append_right (Nat.le_refl _), Nat.sub_self]
            rfl
          · rw [sk1 (by omega), hP j (by omega), List.getD_eq_getElem?_getD, List.getD_eq_getElem?_getD, List.getElem?_append_left (by omega)]
    · have rt : ¬ rqB s n N i = true := fun z => r (of_decide_eq_true z)
      rw [if_pos r]
      refine lpo_l (m - 1) (by omega) ⟨i + 1, by omega, ?_, nI_add i 1, ?_, ?_, hf⟩
      · show nI _ = nI _
        rw [fl_not rt]
      · rw [fl_not rt]; exact hl
      · rw [fl_not rt]; exact hP
def RQ (s : Nat → Fin 256) (n N : Nat) : List Nat := (List.range N).filter (rqB s n N)
def xt1 (s : Nat → Fin 256) (n k : Nat) : Fin 256 := if k < n then s k else 1
theorem s_finds {M : im_M} {sy : Nat → Fin 256} {n N c : Nat} (hn : n ≤ 15) (h1 : 1 ≤ n) (hc : 2 * n ≤ c) (hc2 : c ≤ 30) (hN : N ≤ 255) (hS : AF (im_i M 123) sy c) : ed (f_MSquareRows_finds (nI n) (nI N) M) (fun r => ((r.1 = 0 ∧ (¬ NSg (HA sy n) n ∨ ∃ s, KRn (HA sy n) n (xt1 s n) ∧ (RQ s n N).length ≠ n)) ∨ (r.1 = 1 ∧ ∃ s, KRn (HA sy n) n (xt1 s n) ∧ (RQ s n N).length = n ∧ PLm r.2 (RQ s n N))) ∧ fr (2 ^ 124 + 2 ^ 125 + 2 ^ 126) [] M r.2) := by
  unfold f_MSquareRows_finds
  obtain ⟨M1, e1, s1, f1⟩ := s_hankel (v3 := nI N) hn hc hc2 h1 hS
  rw [e1, bd1_s]
  obtain ⟨⟨x2, M2⟩, e2, s2, f2⟩ := s_solves hn s1
  rw [e2, bd2_s]
  have f12 : fr (2 ^ 124 + 2 ^ 125 + 2 ^ 126) [] M M2 := fr_tr (fr_mono (by decide) (fun p hp => hp) f2) (fr_mono (by decide) (fun p hp => hp) f1)
  rcases s2 with ⟨z, ns⟩ | ⟨z, s, a2, k2⟩
  · replace z : x2 = 0 := z
    rw [z, if_neg (fun q => q rfl)]
    exact ed_mk ⟨Or.inl ⟨rfl, Or.inl ns⟩, f12⟩
  · replace z : x2 = 1 := z
    replace a2 : AF (im_i M2 125) s n := a2
    rw [z, if_pos (by decide)]
    refine bs2_q (s_places hn h1 hN a2) ?_ ?_
    · rintro ⟨y, M3⟩ ⟨p1, p2, p3, p4⟩
      replace p1 : y = nI (RQ s n N).length := p1
      replace p2 : (RQ s n N).length ≤ n := p2
      show ed (if ¬ y = nI n then some (0, M3) else some (1, M3)) _
      rw [p1]
      simp only [nIe (show (RQ s n N).length < 2147483648 by omega) (show n < 2147483648 by omega)]
      by_cases d : (RQ s n N).length = n
      · rw [if_neg (fun q => q d)]
        exact ed_mk ⟨Or.inr ⟨rfl, s, k2, d, p3⟩, fr_tr (fr_mono (by decide) (fun p hp => hp) p4) f12⟩
      · rw [if_pos d]
        exact ed_mk ⟨Or.inl ⟨rfl, Or.inr ⟨s, k2, d⟩⟩, fr_tr (fr_mono (by decide) (fun p hp => hp) p4) f12⟩
    · rintro ⟨y, M3⟩ ⟨p1, p2, p4⟩
      replace p2 : n < (RQ s n N).length := p2
      exact ed_mk ⟨Or.inl ⟨p1, Or.inr ⟨s, k2, by omega⟩⟩, fr_tr (fr_mono (by decide) (fun p hp => hp) p4) f12⟩
