/-! THE SYMBOL BECOMES THE DRAFT -/
theorem s_rowBit {M : im_M} {n v x y : Nat} {G : Nat → Nat → Bool} (h7 : im_i M 108 7 = nI v) (hv : 1 ≤ v ∧ v ≤ 40) (h8 : im_i M 108 8 = nI n) (hn : n ≤ 177) (hG : ∀ x y, x < n → y < n → im_i M 112 (177 * y + x) = bI (G x y)) (hx : x < n) (hy : y < n) : ∃ V : Int64, f_MSquareRows_row (nI x) (nI y) M = some (V, im_setI M 108 0 0) ∧ Int64.toInt32 (V &&& 1) = nI (G x y).toNat := by
  obtain ⟨N, hN⟩ : ∃ N, N = im_setI M 108 0 0 := ⟨_, rfl⟩
  have n7 : im_i N 108 7 = nI v := by rw [hN, sk1 (by omega)]; exact h7
  have n8 : im_i N 108 8 = nI n := by rw [hN, sk1 (by omega)]; exact h8
  have nG : ∀ x y, x < n → y < n → im_i N 112 (177 * y + x) = bI (G x y) := fun x y hx hy => by rw [hN, sk1 (by omega)]; exact hG x y hx hy
  have run : ed (lp (uc2 (f_MSquareRows_row_L10 (nI x) (nI y) N)) (0, 0)) (fun V => lb V 0 = G x y) := by
    refine lp_inv (fun m (s : Int64 × Int32) => ∃ k : Nat, k + m = 64 ∧ s.2 = nI k ∧ (if k = 0 then s.1 = 0 else lb s.1 0 = G x y)) ?_ (k := 64) ⟨0, rfl, rfl, by rw [if_pos rfl]⟩
    rintro m ⟨x4, x5⟩ ⟨k, hk, e1, e2⟩
    replace e1 : x5 = nI k := e1
    replace e2 : if k = 0 then x4 = 0 else lb x4 0 = G x y := e2
    subst e1
    show ed (f_MSquareRows_row_L10 (nI x) (nI y) N x4 (nI k)) _
    unfold f_MSquareRows_row_L10
    have k64 : ((64 : Int32) ≤ nI k) = (64 ≤ k) := nIl (x := 64) (by omega) (by omega)
    simp only [k64]
    by_cases c : 64 ≤ k
    · rw [if_pos c]
      rw [if_neg (by omega)] at e2
      exact lpo_r e2
    · have kv : (nI v ≤ 0) = (v ≤ 0) := nIl (c := 0) (by omega) (by omega)
      have ky : (nI y < 0) = (y < 0) := nIlt (c := 0) (by omega) (by omega)
      have ks : (nI n ≤ nI y) = (n ≤ y) := nIl (by omega) (by omega)
      have ex : Int32.toInt64 (nI x) + Int32.toInt64 (nI k) = lZ ((x + k : Nat) : Int) := by rw [lZ_w (by omega), lZ_w (by omega), lZ_add]; rfl
      have c0 : ¬ lg_cmp (lZ ((x + k : Nat) : Int)) 0 < 0 := by rw [lc_lt, show (0 : Int64) = lZ 0 from rfl, lZ_lt (by omega) (by omega)]; omega
      have c1 : (0 ≤ lg_cmp (lZ ((x + k : Nat) : Int)) (Int32.toInt64 (nI n))) = ¬ x + k < n := by rw [lc_ge, lZ_w (by omega), lZ_lt (by omega) (by omega)]; exact propext ⟨fun z y => z (by omega), fun z y => z (by omega)⟩
      rw [if_neg c, n7, n8, ex]
      simp only [kv, ky, ks, c1, jn0]
      rw [if_neg (show ¬ v ≤ 0 by omega), if_neg (show ¬ y < 0 by omega), if_neg (show ¬ n ≤ y by omega), if_neg c0]
      have fin : ∀ Z : Int64, lb Z 0 = G x y → ed (some (Sum.inl (Z, nI k + 1) : (Int64 × Int32) ⊕ Int64)) (lpo (fun m (s : Int64 × Int32) => ∃ k : Nat, k + m = 64 ∧ s.2 = nI k ∧ (if k = 0 then s.1 = 0 else lb s.1 0 = G x y)) (fun V => lb V 0 = G x y) m) := fun Z hZ => lpo_l (m - 1) (by omega) ⟨k + 1, by omega, nI_add k 1, by rw [if_neg (by omega)]; exact hZ⟩
      have one : lb ((1 : Int64) <<< (Int32.toInt64 (nI k) &&& 63)) 0 = decide (0 = k) := by rw [lZ_w (by omega)]; exact lb_one (by omega) (by omega)
      by_cases d : x + k < n
      · have e7 : f_MSquareRows_moduleAt (Int64.toInt32 (lZ ((x + k : Nat) : Int))) (nI y) N = some (nI (177 * y + (x + k))) := by
          unfold f_MSquareRows_moduleAt
          rw [lZ_i (by omega), ← iZ_nI, nI_m, nI_add, Nat.add_comm]
        rw [if_neg (show ¬ ¬ x + k < n from fun z => z d), if_neg (show ¬ (1 : Int32) = 0 by decide), e7, bd1_s, gd_pos (by rw [inb_nI (by omega)]; omega), nI_clamp (by omega), nG (x + k) y d hy]
        cases g : G (x + k) y with
        | true =>
          rw [if_neg (show ¬ ¬ bI true = 1 from fun z => z rfl), bd1_s]
          refine fin _ ?_
          rw [lb_or, one]
          by_cases k0 : k = 0
          · subst k0
            rw [decide_eq_true rfl, Bool.or_true]
            exact g.symm
          · rw [if_neg k0] at e2
            rw [decide_eq_false (by omega), Bool.or_false]
            exact e2
        | false =>
          rw [if_pos (show ¬ bI false = 1 by decide), bd1_s]
          refine fin _ ?_
          by_cases k0 : k = 0
          · subst k0
            rw [if_pos rfl] at e2
            rw [e2, lb_0]
            exact g.symm
          · rw [if_neg k0] at e2
            exact e2
      · rw [if_pos d, if_pos rfl, bd1_s]
        refine fin _ ?_
        have k0 : ¬ k = 0 := by omega
        rw [if_neg k0] at e2
        exact e2
  obtain ⟨V, hV, hl⟩ := run
  refine ⟨V, ?_, ?_⟩
  · unfold f_MSquareRows_row
    rw [← hN, hV, bd1_s]
  · rw [l_and1, hl]
    cases G x y with
    | true => rfl
    | false => rfl
/-- the bits of the modules, row by row -/
def btL (n : Nat) (G : Nat → Nat → Bool) : List Bool := (List.range (n * n)).map (fun k => G (k % n) (k / n))
theorem bt_gd {n k : Nat} {G : Nat → Nat → Bool} : (btL n G).getD k false = if k < n * n then G (k % n) (k / n) else false := by
  unfold btL
  by_cases c : k < n * n
  · rw [if_pos c, List.getD_eq_getElem?_getD, List.getElem?_map, List.getElem?_range c]
    rfl
  · rw [if_neg c, List.getD_eq_getElem?_getD, List.getElem?_eq_none (by rw [List.length_map, List.length_range]; omega)]
    rfl
/-- j bits of byte i -/
def peB (L : List Bool) (i : Nat) : Nat → Nat
  | 0 => 0
  | j + 1 => 2 * peB L i j + (L.getD (8 * i + j) false).toNat
theorem pe_8 {L : List Bool} {i : Nat} : peB L i 8 = byL L i := by
  unfold byL
  show 2 * (2 * (2 * (2 * (2 * (2 * (2 * (2 * 0 + (L.getD (8 * i + 0) false).toNat) + (L.getD (8 * i + 1) false).toNat) + (L.getD (8 * i + 2) false).toNat) + (L.getD (8 * i + 3) false).toNat) + (L.getD (8 * i + 4) false).toNat) + (L.getD (8 * i + 5) false).toNat) + (L.getD (8 * i + 6) false).toNat) + (L.getD (8 * i + 7) false).toNat = _
  rw [Nat.add_zero]
  omega
theorem peB_b {L : List Bool} {i : Nat} : ∀ j, peB L i j < 2 ^ j := by
  intro j
  induction j with
  | zero => show 0 < 1; omega
  | succ j ih =>
    have := tn_1 (L.getD (8 * i + j) false)
    show 2 * peB L i j + (L.getD (8 * i + j) false).toNat < 2 ^ (j + 1)
    rw [Nat.pow_succ]
    omega
theorem sq_8 : ∀ v : Fin 41, (17 + 4 * v.val) * (17 + 4 * v.val) % 8 = 1 ∧ (17 + 4 * v.val) * (17 + 4 * v.val) ≤ 31329 := by decide
theorem last_t : ∀ b : Bool, ((nI b.toNat) <<< (((8 : Int32) - nI 1) &&& 31 : Int32) : Int32) = nI (128 * b.toNat) := by decide +kernel
theorem s_modulesM {M : im_M} {v : Nat} {G : Nat → Nat → Bool} (hv : 1 ≤ v ∧ v ≤ 40) (h7 : im_i M 108 7 = nI v) (h8 : im_i M 108 8 = nI (17 + 4 * v)) (hG : ∀ x y, x < 17 + 4 * v → y < 17 + 4 * v → im_i M 112 (177 * y + x) = bI (G x y)) (hd : im_i M 89 7 = 0) : ed (bd2 (lp (uc3 (f_M_draftSymbol_L92 (nI (17 + 4 * v)))) (0, 0, M)) fun (y28 : Int32) (M29 : im_M) => bd1 (f_M_draft (y28 <<< (((8 : Int32) - ((nI (17 + 4 * v) * nI (17 + 4 * v)) - (nI (17 + 4 * v) * nI (17 + 4 * v)) / 8 * 8)) &&& 31 : Int32) : Int32) M29) fun (M30 : im_M) => some (nI (17 + 4 * v), M30)) (fun r => r.1 = nI (17 + 4 * v) ∧ DFT r.2 ((17 + 4 * v) * (17 + 4 * v) / 8 + 1) (byL (btL (17 + 4 * v) G))) := by
  obtain ⟨q8, qb⟩ := sq_8 ⟨v, by omega⟩
  replace q8 : (17 + 4 * v) * (17 + 4 * v) % 8 = 1 := q8
  replace qb : (17 + 4 * v) * (17 + 4 * v) ≤ 31329 := qb
  obtain ⟨n, hn⟩ : ∃ n, n = 17 + 4 * v := ⟨_, rfl⟩
  rw [← hn] at h8 hG q8 qb ⊢
  have n1 : 21 ≤ n ∧ n ≤ 177 := by omega
  obtain ⟨L, hL⟩ : ∃ L, L = btL n G := ⟨_, rfl⟩
  rw [← hL, nI_mul]
  apply bd2_mk
  refine ed_mono (lp_inv (fun m (t : Int32 × Int32 × im_M) => ∃ k : Nat, k + m = n * n ∧ t.1 = nI (peB L (k / 8) (k % 8)) ∧ t.2.1 = nI k ∧ DFT t.2.2 (k / 8) (byL L) ∧ im_i t.2.2 108 7 = nI v ∧ im_i t.2.2 108 8 = nI n ∧ (∀ x y, x < n → y < n → im_i t.2.2 112 (177 * y + x) = bI (G x y))) (Q := fun (r : Int32 × im_M) => r.1 = nI (peB L (n * n / 8) 1) ∧ DFT r.2 (n * n / 8) (byL L)) ?_ (k := n * n) ⟨0, by omega, rfl, rfl, ⟨hd, by omega, fun i hi => absurd hi (Nat.not_lt_zero _)⟩, h7, h8, hG⟩) ?_
  · rintro m ⟨x16, x17, M18⟩ ⟨k, hk, e1, e2, d18, a7, a8, aG⟩
    replace e1 : x16 = nI (peB L (k / 8) (k % 8)) := e1
    replace e2 : x17 = nI k := e2
    replace d18 : DFT M18 (k / 8) (byL L) := d18
    replace a7 : im_i M18 108 7 = nI v := a7
    replace a8 : im_i M18 108 8 = nI n := a8
    replace aG : ∀ x y, x < n → y < n → im_i M18 112 (177 * y + x) = bI (G x y) := aG
    subst e1 e2
    show ed (f_M_draftSymbol_L92 (nI n) (nI (peB L (k / 8) (k % 8))) (nI k) M18) _
    unfold f_M_draftSymbol_L92
    rw [nI_mul, if_nIl (by omega) (by omega)]
    by_cases c : n * n ≤ k
    · rw [if_pos c]
      obtain rfl : k = n * n := by omega
      refine lpo_r ⟨?_, d18⟩
      show nI (peB L (n * n / 8) (n * n % 8)) = _
      rw [q8]
    · have kn : k % n < n := Nat.mod_lt _ (by omega)
      have kd : k / n < n := (Nat.div_lt_iff_lt_mul (by omega)).mpr (by omega)
      have z : ¬ nI n = 0 := nI_z (by omega) (by omega)
      obtain ⟨V, hV, hb⟩ := s_rowBit (x := k % n) (y := k / n) a7 hv a8 n1.2 aG kn kd
      have r8 : nI k - nI k / 8 * 8 = nI (k % 8) := nI_rem (b := 8) (by omega) (by omega) (by omega)
      have k7 : (nI (k % 8) = 7) = (k % 8 = 7) := nIe (c := 7) (by omega) (by omega)
      have gb : (L.getD (8 * (k / 8) + k % 8) false) = G (k % n) (k / n) := by
        rw [show 8 * (k / 8) + k % 8 = k by omega, hL, bt_gd, if_pos (by omega)]
      have pe1 : (2 : Int32) * nI (peB L (k / 8) (k % 8)) + nI (G (k % n) (k / n)).toNat = nI (peB L (k / 8) (k % 8 + 1)) := by
        rw [nI_m, nI_add, ← gb]
        rfl
      have f19 : fr 0 [(108, 0)] M18 (im_setI M18 108 0 0) := fr_F (by decide) fr_refl
      have d19 := DFT_fr f19 (by decide +kernel) d18
      rw [if_neg c, gd_pos z, gd_pos z, nI_rem (by omega) (by omega) (by omega), nI_div (by omega) (by omega) (by omega), hV, bd2_s, r8, hb, pe1]
      simp only [k7]
      have ek : nI k + 1 = nI (k + 1) := nI_add k 1
      by_cases w : k % 8 = 7
      · have pb := peB_b (L := L) (i := k / 8) 8
        rw [if_neg (fun u => u w), w, pe_8]
        apply bd2_mk
        apply bd1_mk
        refine ed_mono (s_draft (u := byL L (k / 8)) d19 (by omega) byL_lt rfl) ?_
        rintro M21 ⟨f21, d21⟩
        have fa : fr (2 ^ 92) [(89, 0), (89, 7), (108, 0)] M18 M21 := fr_tr (fr_mono (by decide) (by decide) f21) (fr_mono (by decide) (by decide) f19)
        refine ed_mk ?_
        refine lpo_l (m - 1) (by omega) ⟨k + 1, by omega, ?_, ek, ?_, (fa.1 108 7 (by decide) (by decide)).trans a7, (fa.1 108 8 (by decide) (by decide)).trans a8, fun x y hx hy => ?_⟩
        · rw [show (k + 1) % 8 = 0 by omega]
          rfl
        · rw [show (k + 1) / 8 = k / 8 + 1 by omega]
          exact d21
        · show im_i M21 112 _ = _
          rw [fa.1 112 _ (by decide) (by simp)]
          exact aG x y hx hy
      · rw [if_pos w, bd2_s]
        refine lpo_l (m - 1) (by omega) ⟨k + 1, by omega, ?_, ek, ?_, by rw [sk1 (by omega)]; exact a7, by rw [sk1 (by omega)]; exact a8, fun x y hx hy => by rw [sk1 (by omega)]; exact aG x y hx hy⟩
        · rw [show (k + 1) / 8 = k / 8 by omega, show (k + 1) % 8 = k % 8 + 1 by omega]
        · rw [show (k + 1) / 8 = k / 8 by omega]
          exact d19
  · rintro ⟨y28, M29⟩ ⟨e28, d29⟩
    replace e28 : y28 = nI (peB L (n * n / 8) 1) := e28
    subst e28
    have r8 : nI (n * n) - nI (n * n) / 8 * 8 = nI 1 := by
      have e : nI (n * n) - nI (n * n) / 8 * 8 = nI (n * n % 8) := nI_rem (a := n * n) (b := 8) (by omega) (by omega) (by omega)
      rw [e, q8]
    have p1 : peB L (n * n / 8) 1 = (L.getD (8 * (n * n / 8)) false).toNat := by
      show 2 * 0 + (L.getD (8 * (n * n / 8) + 0) false).toNat = _
      rw [Nat.add_zero, Nat.mul_zero, Nat.zero_add]
    have bl : byL L (n * n / 8) = 128 * (L.getD (8 * (n * n / 8)) false).toNat := by
      have o : ∀ j, 1 ≤ j → j < 8 → L.getD (8 * (n * n / 8) + j) false = false := fun j h1 h2 => by
        rw [hL, bt_gd, if_neg (by omega)]
      unfold byL
      rw [o 1 (by omega) (by omega), o 2 (by omega) (by omega), o 3 (by omega) (by omega), o 4 (by omega) (by omega), o 5 (by omega) (by omega), o 6 (by omega) (by omega), o 7 (by omega) (by omega)]
      rfl
    rw [r8, p1, last_t, ← bl]
    apply bd1_mk
    refine ed_mono (s_draft (u := byL L (n * n / 8)) d29 (by omega) byL_lt rfl) ?_
    rintro M30 ⟨_, d30⟩
    exact ed_mk ⟨rfl, d30⟩
/-- a symbol by both: the class's modules, the reference's draft -/
theorem ds_tail {n9 : Int32} {M : im_M} {r : Int32 × im_M} (h : (bd2 (lp (uc3 (f_M_draftSymbol_L92 n9)) (0, 0, M)) fun (y28 : Int32) (M29 : im_M) => bd1 (f_M_draft (y28 <<< (((8 : Int32) - ((n9 * n9) - (n9 * n9) / 8 * 8)) &&& 31 : Int32) : Int32) M29) fun (M30 : im_M) => some (n9, M30)) = some r) : fr 174126271304346472093725980748157026304 [(71, 0), (89, 0), (89, 7), (108, 0), (108, 4), (108, 7), (108, 8), (108, 9), (108, 13), (108, 16), (108, 19)] M r.2 := by
  replace h : ed (bd2 (lp (uc3 (f_M_draftSymbol_L92 n9)) (0, 0, M)) fun (y28 : Int32) (M29 : im_M) => bd1 (f_M_draft (y28 <<< (((8 : Int32) - ((n9 * n9) - (n9 * n9) / 8 * 8)) &&& 31 : Int32) : Int32) M29) fun (M30 : im_M) => some (n9, M30)) (fun x => x = r) := ⟨r, h, rfl⟩
  obtain ⟨Q8, hQ8, h⟩ := bd2_ed h
  have K8 : ∀ (y9 : Int32) (M10 : im_M), fr 174126271304346472093725980748157026304 [(71, 0), (89, 0), (89, 7), (108, 0), (108, 4), (108, 7), (108, 8), (108, 9), (108, 13), (108, 16), (108, 19)] M M10 → Q8 (y9, M10) → fr 174126271304346472093725980748157026304 [(71, 0), (89, 0), (89, 7), (108, 0), (108, 4), (108, 7), (108, 8), (108, 9), (108, 13), (108, 16), (108, 19)] M r.2 := by
    intro y9 M10 hM10 h
    replace h := hQ8 _ _ h
    obtain ⟨Q11, hQ11, h⟩ := bd1_ed h
    obtain ⟨M11, e11, h⟩ := h
    replace h := hQ11 _ h
    exact fr_ret h (fr_tr (fr_mono (by decide) (by decide +kernel) (f_M_draft_fr e11)) hM10)
  obtain ⟨r8, hr8, hq8⟩ := h
  obtain ⟨n8, hn8⟩ := lp_n hr8
  have I8 : ∀ (n : Nat) (x12 : Int32) (x13 : Int32) (M14 : im_M), fr 174126271304346472093725980748157026304 [(71, 0), (89, 0), (89, 7), (108, 0), (108, 4), (108, 7), (108, 8), (108, 9), (108, 13), (108, 16), (108, 19)] M M14 → lpn (uc3 (f_M_draftSymbol_L92 n9)) n (x12, x13, M14) = some r8 → fr 174126271304346472093725980748157026304 [(71, 0), (89, 0), (89, 7), (108, 0), (108, 4), (108, 7), (108, 8), (108, 9), (108, 13), (108, 16), (108, 19)] M r.2 := by
    intro n
    induction n with
    | zero => intro x12 x13 M14 hM14 hn; exact (lpn_0 hn).elim
    | succ n ih =>
      intro x12 x13 M14 hM14 hn
      have h := lpn_ed3 hn
      unfold f_M_draftSymbol_L92 at h
      by_cases q99 : (n9 * n9) ≤ x13
      · replace h := ed_pos q99 h
        exact K8 _ _ hM14 (lq_r h hq8)
      · replace h := ed_neg q99 h
        obtain ⟨g114, h⟩ := ed_gd h
        obtain ⟨g119, h⟩ := ed_gd h
        obtain ⟨Q15, hQ15, h⟩ := bd2_ed h
        obtain ⟨⟨x15, M15⟩, e15, h⟩ := h
        replace h := hQ15 _ _ h
        obtain ⟨Q16, hQ16, h⟩ := bd2_ed h
        have J16 : ∀ (y18 : Int32) (M19 : im_M), fr 174126271304346472093725980748157026304 [(71, 0), (89, 0), (89, 7), (108, 0), (108, 4), (108, 7), (108, 8), (108, 9), (108, 13), (108, 16), (108, 19)] M M19 → Q16 (y18, M19) → fr 174126271304346472093725980748157026304 [(71, 0), (89, 0), (89, 7), (108, 0), (108, 4), (108, 7), (108, 8), (108, 9), (108, 13), (108, 16), (108, 19)] M r.2 := by
          intro y18 M19 hM19 h
          replace h := hQ16 _ _ h
          exact ih _ _ _ hM19 (lq_l h)
        by_cases q136 : ¬ (x13 - x13 / 8 * 8) = 7
        · replace h := ed_pos q136 h
          exact J16 _ _ (fr_tr (fr_mono (by decide) (by decide +kernel) (f_MSquareRows_row_fr e15)) hM14) (ed_some h)
        · replace h := ed_neg q136 h
          obtain ⟨Q17, hQ17, h⟩ := bd1_ed h
          obtain ⟨M17, e17, h⟩ := h
          replace h := hQ17 _ h
          exact J16 _ _ (fr_tr (fr_mono (by decide) (by decide +kernel) (f_M_draft_fr e17)) (fr_tr (fr_mono (by decide) (by decide +kernel) (f_MSquareRows_row_fr e15)) hM14)) (ed_some h)
  exact I8 n8 _ _ _ fr_refl hn8
theorem two_symbol {Mc Mr : im_M} {k n l : Nat} {t : Nat → Nat} {mz : Int} (hc : OCl Mc k n t) (qp : PWL Mc) (q : OM Mr k n t) (qt : TBR Mr) (hl : l < 4) (hm : -1 ≤ mz ∧ mz ≤ 7) (e6 : im_i Mr 87 (9 * k + 6) = nI l) (e7 : im_i Mr 87 (9 * k + 7) = iZ mz) (hd : im_i Mr 89 7 = 0) : ∃ (v : Nat) (G : Nat → Nat → Bool) (B : Nat → Nat), (1 ≤ v ∧ v ≤ 40) ∧ ed (f_HGrid_make (nI (200 * k)) (nI n) (nI l) (iZ mz) Mc) (fun r => r.1 = 1 ∧ GRD r.2 (17 + 4 * v) G) ∧ ed (f_M_draftSymbol (nI k) Mr) (fun r => r.1 = nI (17 + 4 * v) ∧ DFT r.2 ((17 + 4 * v) * (17 + 4 * v) / 8 + 1) B ∧ (B8 (im_i Mr 120) → B8 (im_i r.2 120))) ∧ ∀ c r, c < 17 + 4 * v → r < 17 + 4 * v → ib (nI (B (((17 + 4 * v) * r + c) / 8))) (7 - ((17 + 4 * v) * r + c) % 8) = G c r := by
  have n200 := q.2.1
  have qq := q
  obtain ⟨⟨N, hN1, hN2, hN3⟩, _, _, hb⟩ := q
  -- the bytes
  have f1 : fr (2 ^ 111) [(71, 0), (108, 0), (108, 4)] Mr (im_setI (im_setI Mr 108 0 0) 108 4 0) := fr_F (by decide) (fr_F (by decide) fr_refl)
  have bytes : ed (lp (uc2 (f_M_draftSymbol_L22 (nI k) (nI n))) (0, im_setI (im_setI (im_setI Mr 108 0 0) 108 4 0) 71 0 0)) (fun R => TQ R n t ∧ fr (2 ^ 111) [(71, 0), (108, 0), (108, 4)] Mr R) := by
    refine lp_inv (fun m (x : Int32 × im_M) => ∃ i : Nat, i + m = n ∧ x.1 = nI i ∧ TQ x.2 i t ∧ fr (2 ^ 111) [(71, 0), (108, 0), (108, 4)] Mr x.2) ?_ (k := n) ⟨0, by omega, rfl, ⟨by rw [sk1 (by omega)]; exact hit, by omega, fun i hi => absurd hi (Nat.not_lt_zero _)⟩, fr_F (by decide) f1⟩
    rintro m ⟨x6, M7⟩ ⟨i, hi, e1, tq, f7⟩
    replace e1 : x6 = nI i := e1
    replace tq : TQ M7 i t := tq
    replace f7 : fr (2 ^ 111) [(71, 0), (108, 0), (108, 4)] Mr M7 := f7
    subst e1
    show ed (f_M_draftSymbol_L22 (nI k) (nI n) (nI i) M7) _
    unfold f_M_draftSymbol_L22
    rw [if_nIl (by omega) (by omega)]
    by_cases c : n ≤ i
    · rw [if_pos c]
      obtain rfl : i = n := by omega
      exact lpo_r ⟨tq, f7⟩
    · have b1 := (hb i (by omega)).1
      obtain ⟨t1, t2, t3⟩ := tq
      rw [if_neg c, OM_byte (OM_fr f7 (by decide +kernel) qq) (by omega), bd2_s, s_putR (n := i) (by rw [sk1 (by omega)]; exact t1) (by omega) b1, bd2_s]
      refine lpo_l (m - 1) (by omega) ⟨i + 1, by omega, nI_add i 1, ⟨hit, by omega, fun j hj => ?_⟩, fr_F (by decide) (fr_I (by decide) (fr_F (by decide) (fr_F (by decide) f7)))⟩
      show t j < 256 ∧ im_i (im_setI (im_setI (im_setI (im_setI M7 71 0 0) 108 0 0) 111 i (nI (t i))) 108 4 (nI (i + 1))) 111 j = nI (t j)
      rw [sk1 (by omega)]
      by_cases e : j = i
      · subst e
        exact ⟨b1, hit⟩
      · rw [sk1 (fun y => e y.2), sk1 (by omega), sk1 (by omega)]
        exact t3 j (by omega)
  obtain ⟨M10, h10, tq, f10⟩ := bytes
  have f12 : fr (2 ^ 111) [(71, 0), (108, 0), (108, 4)] Mr (im_setI (im_setI M10 71 0 0) 71 0 0) := fr_F (by decide) (fr_F (by decide) f10)
  have tq12 : TQ (im_setI (im_setI M10 71 0 0) 71 0 0) n t := TQ_fr (show fr 0 [(71, 0)] M10 _ from fr_F (by decide) (fr_F (by decide) fr_refl)) (by decide +kernel) tq
  obtain ⟨v, G, hv, hcl, hrf⟩ := two_make hc qp tq12 (TBR_fr f12 (by decide +kernel) qt) hl hm
  obtain ⟨⟨x13, M13⟩, hmk, e13, a7, a8, aG, a120⟩ := hrf
  replace e13 : x13 = nI v := e13
  subst e13
  have fm := f_MSquareRows_make_fr hmk
  have d13 : im_i M13 89 7 = 0 := by
    rw [fm.1 89 7 (by decide) (by decide), f12.1 89 7 (by decide) (by decide)]
    exact hd
  refine ⟨v, G, byL (btL (17 + 4 * v) G), hv, hcl, ?_, fun c r hc2 hr => ?_⟩
  · unfold f_M_draftSymbol f_MSquareRows_wipe
    have or6 : f_MScriptRows_order (nI k) 6 M10 = some (nI l, im_setI M10 71 0 0) := by
      have := s_orderM (M := M10) (n := N) (k := k) (t := 6) ((f10.1 71 37 (by decide) (by decide)).trans hN1) hN2 hN3 (by omega)
      replace this : f_MScriptRows_order (nI k) 6 M10 = some (im_i M10 87 (9 * k + 6), im_setI M10 71 0 0) := this
      rw [this, f10.1 87 _ (by decide) (by simp), e6]
    have or7 : f_MScriptRows_order (nI k) 7 (im_setI M10 71 0 0) = some (iZ mz, im_setI (im_setI M10 71 0 0) 71 0 0) := by
      have := s_orderM (M := im_setI M10 71 0 0) (n := N) (k := k) (t := 7) (by rw [sk1 (by omega)]; exact (f10.1 71 37 (by decide) (by decide)).trans hN1) hN2 hN3 (by omega)
      replace this : f_MScriptRows_order (nI k) 7 (im_setI M10 71 0 0) = some (im_i (im_setI M10 71 0 0) 87 (9 * k + 7), im_setI (im_setI M10 71 0 0) 71 0 0) := this
      rw [this, sk1 (by omega), f10.1 87 _ (by decide) (by simp), e7]
    have e4 : (17 : Int32) + (4 : Int32) * nI v = nI (17 + 4 * v) := by rw [nI_m, show (17 : Int32) = nI 17 from rfl, nI_add]
    rw [bd2_s, OM_size (OM_fr f1 (by decide +kernel) qq), bd2_s, h10, bd1_s, or6, bd2_s, or7, bd2_s, hmk, bd2_s, e4]
    obtain ⟨z, ez, z1, z2⟩ := s_modulesM hv a7 a8 aG d13
    refine ⟨z, ez, z1, z2, fun hb8 => ?_⟩
    have ft := ds_tail ez
    rw [fr_c ft 120 (by decide) (by decide)]
    refine a120 ?_
    rw [fr_c f12 120 (by decide) (by decide)]
    exact hb8
  · obtain ⟨n', hn'⟩ : ∃ n', n' = 17 + 4 * v := ⟨_, rfl⟩
    rw [← hn'] at hc2 hr ⊢
    rw [ib_nI (by omega), byL_bit (by omega), show 8 * ((n' * r + c) / 8) + (7 - (7 - (n' * r + c) % 8)) = n' * r + c by omega, bt_gd]
    have lt : n' * r + c < n' * n' := by
      have : n' * (r + 1) ≤ n' * n' := Nat.mul_le_mul_left _ (by omega)
      rw [Nat.mul_succ] at this
      omega
    rw [if_pos lt, Nat.mul_add_mod, Nat.mod_eq_of_lt hc2, Nat.mul_add_div (by omega), Nat.div_eq_of_lt hc2, Nat.add_zero]
