/-! THE WRONG DOTS, AS THE REFERENCE COUNTS THEM -/
theorem s_blocks {M : im_M} {s q a b : Nat} (hs : s ≤ 200) (ha : a < s) (hb : b < s) (hq : q < 4) : f_MPlaceRows_blockX (nI s) (nI a) (nI b) (nI q) M = some (nI (pX s q a b)) ∧ f_MPlaceRows_blockY (nI s) (nI a) (nI b) (nI q) M = some (nI (pY s q a b)) := by
  have e1 : nI s - 1 - nI a = nI (s - 1 - a) := nI_s1 ha (by omega)
  have e2 : nI s - 1 - nI b = nI (s - 1 - b) := nI_s1 hb (by omega)
  unfold f_MPlaceRows_blockX f_MPlaceRows_blockY
  rw [e1, e2]
  have hq4 : q = 0 ∨ q = 1 ∨ q = 2 ∨ q = 3 := by omega
  rcases hq4 with rfl | rfl | rfl | rfl
  · rw [if_neg (by decide), if_neg (by decide)]; exact ⟨rfl, rfl⟩
  · rw [if_pos (by decide), if_neg (by decide), if_pos (by decide), if_neg (by decide)]; exact ⟨rfl, rfl⟩
  · rw [if_pos (by decide), if_pos (by decide), if_neg (by decide), if_pos (by decide), if_pos (by decide), if_neg (by decide)]; exact ⟨rfl, rfl⟩
  · rw [if_pos (by decide), if_pos (by decide), if_pos (by decide), if_pos (by decide), if_pos (by decide), if_pos (by decide)]; exact ⟨rfl, rfl⟩
theorem s_least {M : im_M} {a b : Nat} (ha : a < 1000) (hb : b < 1000) : f_MPlaceRows_least (nI a) (nI b) M = some (nI (if b ≤ a then b else a)) := by
  unfold f_MPlaceRows_least
  rw [if_nIl (by omega) (by omega)]
  split <;> rfl
theorem rn_min {s q a b l : Nat} (hq : q < 4) (hl : 1 ≤ l) (ha : a + l ≤ s) (hb : b < s) : (if pX s q (a + l - 1) b ≤ pX s q a b then pX s q (a + l - 1) b else pX s q a b) = rnX s q a b l ∧ (if pY s q (a + l - 1) b ≤ pY s q a b then pY s q (a + l - 1) b else pY s q a b) = rnY s q a b l ∧ rnX s q a b l + (if q % 2 = 1 then 1 else l) ≤ s ∧ rnY s q a b l + (if q % 2 = 1 then l else 1) ≤ s := by
  have hq4 : q = 0 ∨ q = 1 ∨ q = 2 ∨ q = 3 := by omega
  unfold rnX rnY pX pY
  rcases hq4 with rfl | rfl | rfl | rfl <;> simp only [Nat.reduceMod, Nat.reduceEqDiff, if_true, if_false] <;> refine ⟨?_, ?_, ?_, ?_⟩ <;> (repeat' split) <;> omega
theorem s_darkM {M : im_M} {W H m v x y q n k : Nat} {a b l c : Nat → Nat} {D : Nat → Nat → Bool} (hs : SUMS (im_i M 132) W H D) (hW : W ≤ 512) (hH : H ≤ 512) (hR : RN M (17 + 4 * v) n a b l c) (hk : k < n) (hn : n ≤ 525) (hv : v ≤ 40) (hq : q < 4) (hx : x + m * (17 + 4 * v) ≤ W) (hy : y + m * (17 + 4 * v) ≤ H) : f_MPlaceRows_darkIn (nI k) (nI x) (nI y) (nI m) (nI (17 + 4 * v)) (nI q) M = some (iZ (iS (fun t => BB D m x y (pX (17 + 4 * v) q (a k + t) (b k)) (pY (17 + 4 * v) q (a k + t) (b k))) (l k))) := by
  obtain ⟨⟨r0, r1, r2, r3⟩, i1, i2, i3, i4⟩ := hR.2 k hk
  obtain ⟨m1, m2, m3, m4⟩ := rn_min (q := q) hq i3 i1 i2
  have z0 : (4 : Int32) * nI k = nI (4 * k) := nI_m 4
  have z1 : nI (4 * k) + 1 = nI (4 * k + 1) := nI_add _ 1
  have z2 : nI (4 * k) + 2 = nI (4 * k + 2) := nI_add _ 2
  have zl : nI (a k) + nI (l k) - 1 = nI (a k + l k - 1) := by rw [nI_add]; exact nI_m1 (by omega)
  have B0 := s_blocks (M := M) (s := 17 + 4 * v) (q := q) (a := a k) (b := b k) (by omega) (by omega) i2 hq
  have B1 := s_blocks (M := M) (s := 17 + 4 * v) (q := q) (a := a k + l k - 1) (b := b k) (by omega) (by omega) i2 hq
  have pb : ∀ i j, i < 17 + 4 * v → j < 17 + 4 * v → pX (17 + 4 * v) q i j < 1000 ∧ pY (17 + 4 * v) q i j < 1000 := fun i j hi hj => by unfold pX pY; (repeat' split) <;> omega
  have p0 := pb (a k) (b k) (by omega) i2
  have p1 := pb (a k + l k - 1) (b k) (by omega) i2
  have o2 : (nI q - nI q / 2 * 2) = nI (q % 2) := nI_odd (by omega)
  have oq : (nI (q % 2) = 0) = (q % 2 = 0) := nIe (c := 0) (by omega) (by omega)
  unfold f_MPlaceRows_darkIn
  rw [z0, z1, z2, gd_pos (by rw [inb_nI (by omega)]; omega), gd_pos (by rw [inb_nI (by omega)]; omega), gd_pos (by rw [inb_nI (by omega)]; omega), nI_clamp (show 4 * k < 2147483648 by omega), nI_clamp (show 4 * k + 1 < 2147483648 by omega), nI_clamp (show 4 * k + 2 < 2147483648 by omega), r0, r1, r2, zl, B0.1, bd1_s, B1.1, bd1_s, s_least p0.1 p1.1, bd1_s, B0.2, bd1_s, B1.2, bd1_s, s_least p0.2 p1.2, bd1_s, m1, m2, o2]
  simp only [oq]
  have w1 : (if ¬ q % 2 = 0 then some (1 : Int32) else gd (inb (nI (4 * k + 2)) 2100) <| some (nI (l k))) = some (nI (if q % 2 = 1 then 1 else l k)) := by
    rw [gd_pos (by rw [inb_nI (by omega)]; omega)]
    by_cases o : q % 2 = 0
    · rw [if_neg (fun z => z o), if_neg (by omega)]
    · rw [if_pos o, if_pos (by omega)]; rfl
  have w2 : (if ¬ q % 2 = 0 then gd (inb (nI (4 * k + 2)) 2100) <| some (nI (l k)) else some (1 : Int32)) = some (nI (if q % 2 = 1 then l k else 1)) := by
    rw [gd_pos (by rw [inb_nI (by omega)]; omega)]
    by_cases o : q % 2 = 0
    · rw [if_neg (fun z => z o), if_neg (by omega)]; rfl
    · rw [if_pos o, if_pos (by omega)]
  rw [w1, bd1_s, w2, bd1_s, run_sum hq i1, bS_BB]
  generalize rnX (17 + 4 * v) q (a k) (b k) (l k) = X at m3 ⊢
  generalize rnY (17 + 4 * v) q (a k) (b k) (l k) = Y at m4 ⊢
  generalize (if q % 2 = 1 then 1 else l k) = wd at m3 ⊢
  generalize (if q % 2 = 1 then l k else 1) = ht at m4 ⊢
  have hX : m * X + m * wd ≤ m * (17 + 4 * v) := by rw [← Nat.mul_add]; exact Nat.mul_le_mul_left m m3
  have hY : m * Y + m * ht ≤ m * (17 + 4 * v) := by rw [← Nat.mul_add]; exact Nat.mul_le_mul_left m m4
  have ix : (513 : Int32) * (nI y + nI m * nI Y) + nI x + nI m * nI X = nI (513 * (y + m * Y) + (x + m * X)) := by
    rw [nI_mul, nI_add, nI_m, nI_add, nI_mul, nI_add, Nat.add_assoc]
  have iy : nI (513 * (y + m * Y) + (x + m * X)) + (513 : Int32) * nI m * nI ht = nI (513 * (y + m * Y + m * ht) + (x + m * X)) := by
    rw [nI_m, nI_mul, nI_add]
    congr 1
    show 513 * (y + m * Y) + (x + m * X) + 513 * m * ht = _
    rw [Nat.mul_assoc]
    omega
  have iw : ∀ z, nI (513 * z + (x + m * X)) + nI m * nI wd = nI (513 * z + (x + m * X + m * wd)) := fun z => by
    rw [nI_mul, nI_add, Nat.add_assoc]
  rw [ix, iy, iw, iw, gd_pos (by rw [inb_nI (by omega)]; omega), gd_pos (by rw [inb_nI (by omega)]; omega), gd_pos (by rw [inb_nI (by omega)]; omega), gd_pos (by rw [inb_nI (by omega)]; omega), nI_clamp (by omega), nI_clamp (by omega), nI_clamp (by omega), nI_clamp (by omega), hs _ _ (by omega) (by omega), hs _ _ (by omega) (by omega), hs _ _ (by omega) (by omega), hs _ _ (by omega) (by omega), iZ_sub, iZ_sub, iZ_add, bS_cs]
/-- what a module costs -/
def FE (D : Nat → Nat → Bool) (s q m x y c i j : Nat) : Int := ce m ((c : Nat) : Int) (BB D m x y (pX s q i j) (pY s q i j))
theorem FE_ER {D : Nat → Nat → Bool} {s q m x y : Nat} : Gsum s (FE D s q m x y) s 0 = ER s q m (BB D m x y) := by
  unfold Gsum ER
  show _ + 0 = _
  rw [Int.add_zero]
  refine iS_c s (fun j hj => iS_c s (fun i hi => ?_))
  unfold Gm FE
  rcases mo_3 hi hj with h | h | h <;> rw [h] <;> rfl
theorem FE_nn {D : Nat → Nat → Bool} {s q m x y c i j : Nat} : 0 ≤ FE D s q m x y c i j := ce_nn ⟨BB_nn, BB_le⟩
theorem FE_run {D : Nat → Nat → Bool} {s q m x y c a b l : Nat} (hc : c ≤ 1) : iS (fun t => FE D s q m x y c (a + t) b) l = if c = 1 then (m * m : Nat) * (l : Int) - iS (fun t => BB D m x y (pX s q (a + t) b) (pY s q (a + t) b)) l else iS (fun t => BB D m x y (pX s q (a + t) b) (pY s q (a + t) b)) l := by
  have := ce_sum (m := m) (l := l) (c := ((c : Nat) : Int)) (f := fun t => BB D m x y (pX s q (a + t) b) (pY s q (a + t) b)) (by omega)
  unfold FE
  rw [this]
  by_cases h : c = 1
  · rw [if_pos h, if_pos (by omega)]
  · rw [if_neg h, if_neg (by omega)]
theorem s_wrongM {M : im_M} {W H m v x y q lim : Nat} {D : Nat → Nat → Bool} (hs : SUMS (im_i M 132) W H D) (hW : W ≤ 512) (hH : H ≤ 512) (hR : RI M (17 + 4 * v) (17 + 4 * v) 0) (hv : 1 ≤ v ∧ v ≤ 40) (hq : q < 4) (hm : m ≤ 16) (hl : lim ≤ 500) (hx : x + m * (17 + 4 * v) ≤ W) (hy : y + m * (17 + 4 * v) ≤ H) : ed (f_MPlaceRows_wrong (nI x) (nI y) (nI m) (nI v) (nI q) (nI lim) M) (fun r => ∃ u : Int, r = iZ u ∧ EX lim (EE (17 + 4 * v) q m (BB D m x y)) u ∧ 0 ≤ u ∧ u ≤ 1000000) := by
  obtain ⟨n, a, b, l, c, hN, hF, hn, _⟩ := hR
  have hn2 : n ≤ 515 := by
    have := fixed_n hv.1
    have e : Gsum (17 + 4 * v) (fun _ _ _ => 1) (17 + 4 * v) 0 = iS (fun b => iS (fun a => Gm (17 + 4 * v) (fun _ _ _ => 1) a b) (17 + 4 * v)) (17 + 4 * v) := Int.add_zero _
    omega
  have e17 : (17 : Int32) + (4 : Int32) * nI v = nI (17 + 4 * v) := by rw [nI_m, nI_n, nI_add]
  have hmm := mm_le hm
  have hT : Rsum n a b l c (FE D (17 + 4 * v) q m x y) = EE (17 + 4 * v) q m (BB D m x y) := by rw [hF, FE_ER, ER_EE hv.1 hq]
  unfold f_MPlaceRows_wrong f_MPlaceRows_side
  rw [e17, bd1_s]
  apply bd1_mk
  refine ed_mono (lp_inv (fun j (s : Int32 × Int32) => ∃ k : Nat, k + j = n ∧ s.2 = nI k ∧ s.1 = iZ (Rsum k a b l c (FE D (17 + 4 * v) q m x y)) ∧ Rsum k a b l c (FE D (17 + 4 * v) q m x y) ≤ 100000) (Q := fun r => ∃ u : Int, r = iZ u ∧ EX lim (EE (17 + 4 * v) q m (BB D m x y)) u ∧ 0 ≤ u ∧ u ≤ 1000000) ?_ (k := n) ⟨0, by omega, rfl, rfl, by show (0 : Int) ≤ 100000; decide⟩) (fun r h => ed_mk h)
  rintro j ⟨x9, x10⟩ ⟨k, hk, e1, e2, hb⟩
  replace e1 : x10 = nI k := e1
  replace e2 : x9 = iZ (Rsum k a b l c (FE D (17 + 4 * v) q m x y)) := e2
  subst e1 e2
  have nn : ∀ k, 0 ≤ iS (fun t => FE D (17 + 4 * v) q m x y (c k) (a k + t) (b k)) (l k) := fun k => iS_nn _ (fun _ _ => FE_nn)
  have n0 : 0 ≤ Rsum k a b l c (FE D (17 + 4 * v) q m x y) := iS_nn k (fun i _ => nn i)
  have up : Rsum k a b l c (FE D (17 + 4 * v) q m x y) ≤ Rsum n a b l c (FE D (17 + 4 * v) q m x y) := iS_up (by omega) (fun i _ => nn i)
  show ed (f_MPlaceRows_wrong_L13 (nI x) (nI y) (nI m) (nI q) (nI lim) (nI (17 + 4 * v)) M _ (nI k)) _
  unfold f_MPlaceRows_wrong_L13
  rw [hN.1, if_nIl (by omega) (by omega)]
  by_cases c1 : n ≤ k
  · rw [if_pos c1]
    obtain rfl : k = n := by omega
    exact lpo_r ⟨_, rfl, Or.inl hT, n0, by omega⟩
  · rw [if_neg c1, iZ_nI (n := lim), if_iZlt (by omega) (by omega)]
    by_cases c2 : (lim : Int) < Rsum k a b l c (FE D (17 + 4 * v) q m x y)
    · rw [if_pos c2]
      exact lpo_r ⟨_, rfl, Or.inr ⟨c2, by omega⟩, n0, by omega⟩
    · obtain ⟨⟨r0, r1, r2, r3⟩, i1, i2, i3, i4⟩ := hN.2 k (by omega)
      rw [if_neg c2, s_darkM hs hW hH hN (by omega) (by omega) hv.2 hq hx hy, bd1_s]
      have z3 : (4 : Int32) * nI k + 3 = nI (4 * k + 3) := by rw [nI_m]; exact nI_add _ 3
      have z2 : (4 : Int32) * nI k + 2 = nI (4 * k + 2) := by rw [nI_m]; exact nI_add _ 2
      have q1 : (nI (c k) = 1) = (c k = 1) := nIe (c := 1) (by omega) (by omega)
      have run := FE_run (D := D) (s := 17 + 4 * v) (q := q) (m := m) (x := x) (y := y) (a := a k) (b := b k) (l := l k) i4
      have bl : iS (fun t => FE D (17 + 4 * v) q m x y (c k) (a k + t) (b k)) (l k) ≤ 45312 := by
        have h1 := iS_le (f := fun t => FE D (17 + 4 * v) q m x y (c k) (a k + t) (b k)) (g := fun _ => 256) (l k) (fun t _ => by
          show ce m _ _ ≤ 256
          have := BB_le (D := D) (m := m) (x := x) (y := y) (a := pX (17 + 4 * v) q (a k + t) (b k)) (b := pY (17 + 4 * v) q (a k + t) (b k))
          have := BB_nn (D := D) (m := m) (x := x) (y := y) (a := pX (17 + 4 * v) q (a k + t) (b k)) (b := pY (17 + 4 * v) q (a k + t) (b k))
          unfold ce
          repeat' split
          all_goals omega)
        rw [iS_k] at h1
        omega
      have nk := nn k
      rw [z3, z2, gd_pos (by rw [inb_nI (by omega)]; omega), nI_clamp (by omega), nI_clamp (by omega), r3, r2]
      simp only [q1]
      have cost : (if ¬ c k = 1 then some (iZ (iS (fun t => BB D m x y (pX (17 + 4 * v) q (a k + t) (b k)) (pY (17 + 4 * v) q (a k + t) (b k))) (l k))) else gd (inb (nI (4 * k + 2)) 2100) <| some (nI m * nI m * nI (l k) - iZ (iS (fun t => BB D m x y (pX (17 + 4 * v) q (a k + t) (b k)) (pY (17 + 4 * v) q (a k + t) (b k))) (l k)))) = some (iZ (iS (fun t => FE D (17 + 4 * v) q m x y (c k) (a k + t) (b k)) (l k))) := by
        rw [run, gd_pos (by rw [inb_nI (by omega)]; omega)]
        by_cases h : c k = 1
        · rw [if_neg (fun z => z h), if_pos h, nI_mul, nI_mul, iZ_nI, iZ_sub]
          rfl
        · rw [if_pos h, if_neg h]
      rw [cost, bd1_s]
      refine lpo_l (j - 1) (by omega) ⟨k + 1, by omega, nI_add k 1, iZ_add, ?_⟩
      show Rsum k a b l c (FE D (17 + 4 * v) q m x y) + iS (fun t => FE D (17 + 4 * v) q m x y (c k) (a k + t) (b k)) (l k) ≤ 100000
      omega
