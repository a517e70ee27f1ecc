/-! ONE NUMBER AND ALL OF THEM, BOTH SIDES -/
def ND (Mc Mr : im_M) (r1 r2 : Int32 × im_M) (d : Nat) : Prop := fr (2 ^ 8 ||| 2 ^ 9) [] Mc r1.2 ∧ fr (2 ^ 78) [(71, 8)] Mr r2.2 ∧ ((r1.1 = 1 ∧ r2.1 = 1 ∧ (∃ T, CS r1.2 d T ∧ MS r2.2 T) ∧ ∀ j, im_i Mr 78 j = im_i Mc 9 j → im_i r2.2 78 j = im_i r1.2 9 j) ∨ (r1.1 = 0 ∧ r2.1 = 0))
theorem two_fin {Mc Mr M5 M20 : im_M} {d i : Nat} {T : List Int32} {mi a1 a2 : Int32} (hi : i < 4) (hc : CS M5 d T) (hm : MS M20 T) (f1 : fr (2 ^ 8) [] Mc M5) (f2 : fr 0 [(71, 8)] Mr M20) (hmi : mi = 0 ∨ (mi = 1 ∧ ¬ dgB (nxB T) = 0)) : ed (bd3 (lp (uc3 (f_HTape_takeNumber_L28 (nI i) mi)) (0, 0, M5)) fun (y19 : Int32) (y20 : Int32) (M21 : im_M) => if 5 < y20 then some ((0 : Int32), M21) else jn0 (fun (_ : Unit) => if y20 ≤ 0 then some (1, M21) else gd (inb (nI i) 4) <| some (1, (im_setI M21 9 (Int32.toNatClampNeg (nI i)) ((if mi = 0 then y19 else (-y19)) : Int32)))) fun k22 => if mi = 0 then k22 () else if ¬ y20 = 0 then k22 () else some (0, M21)) (fun r1 => ed (bd3 (lp (uc3 (f_MScriptRows_takeNumbers_L81 a1 a2 (nI i) mi)) (0, 0, M20)) fun (y37 : Int32) (y38 : Int32) (M39 : im_M) => if y37 ≤ 5 then bd1 (if y37 ≤ 0 then some M39 else gd (inb (nI i) 4) <| some (im_setI M39 78 (Int32.toNatClampNeg (nI i)) ((if mi = 0 then y38 else (-y38)) : Int32))) fun (M42 : im_M) => some ((1 : Int32), M42) else some (0, M39)) (fun r2 => ND Mc Mr r1 r2 d)) := by
  apply bd3_mk
  obtain ⟨⟨y19, y20, M21⟩, e1, ⟨y37, y38, M39⟩, e2, n, U, hn, n1, n2, n3, q1, q2, g1, g2, h0⟩ := two_digits (p0 := nI i) (mi := mi) (a1 := a1) (a2 := a2) (a3 := nI i) (a4 := mi) hc hm
  replace n1 : y20 = nI n := n1
  replace n2 : y37 = nI n := n2
  replace n3 : y38 = y19 := n3
  replace q1 : CS M21 d U := q1
  replace q2 : MS M39 U := q2
  replace g1 : fr (2 ^ 8) [] M5 M21 := g1
  replace g2 : fr 0 [(71, 8)] M20 M39 := g2
  subst n1 n2 n3
  refine ⟨_, e1, ?_⟩
  rw [e2, bd3_s]
  have c1 : ((5 : Int32) < nI n) = (5 < n) := nIlt (x := 5) (by omega) (by omega)
  have c2 : (nI n ≤ 5) = (n ≤ 5) := nIl (c := 5) (by omega) (by omega)
  have c3 : (nI n ≤ 0) = (n ≤ 0) := nIl (c := 0) (by omega) (by omega)
  have c4 : (nI n = 0) = (n = 0) := nIe (c := 0) (by omega) (by omega)
  have f3 : fr (2 ^ 8 ||| 2 ^ 9) [] Mc M21 := fr_mono (by decide) (by decide) (fr_tr g1 f1)
  have f4 : fr (2 ^ 78) [(71, 8)] Mr M39 := fr_mono (by decide) (by decide) (fr_tr g2 f2)
  show ed (if 5 < nI n then some ((0 : Int32), M21) else _) _
  simp only [jn0, c1, c2, c3, c4]
  by_cases d5 : 5 < n
  · rw [if_pos d5, if_neg (show ¬ n ≤ 5 by omega)]
    exact ed_mk (ed_mk ⟨f3, f4, Or.inr ⟨rfl, rfl⟩⟩)
  · rw [if_neg d5, if_pos (show n ≤ 5 by omega)]
    have t9 : fr (2 ^ 8) [] Mc M21 := fr_tr g1 f1
    have t78 : fr 0 [(71, 8)] Mr M39 := fr_tr g2 f2
    have keep : ∀ j, im_i Mr 78 j = im_i Mc 9 j → im_i M39 78 j = im_i M21 9 j := fun j hj => by
      rw [t78.1 78 j (by decide) (by simp), t9.1 9 j (by decide) (by simp)]
      exact hj
    by_cases dn : n ≤ 0
    · rw [if_pos dn, if_pos dn, bd1_s]
      rcases hmi with rfl | ⟨rfl, hd⟩
      · rw [if_pos rfl]
        exact ed_mk (ed_mk ⟨f3, f4, Or.inl ⟨rfl, rfl, ⟨U, q1, q2⟩, keep⟩⟩)
      · exact absurd (h0.mp (by omega)) hd
    · rw [if_neg dn, if_neg dn, gd_pos (by rw [inb_nI (by omega)]; omega), gd_pos (by rw [inb_nI (by omega)]; omega), nI_clamp (by omega), bd1_s]
      have one : (if mi = 0 then some ((1 : Int32), im_setI M21 9 i (if mi = 0 then y38 else -y38)) else if ¬ n = 0 then some (1, im_setI M21 9 i (if mi = 0 then y38 else -y38)) else some (0, M21)) = some (1, im_setI M21 9 i (if mi = 0 then y38 else -y38)) := by
        by_cases z : mi = 0
        · rw [if_pos z]
        · rw [if_neg z, if_pos (by omega)]
      rw [one]
      refine ed_mk (ed_mk ⟨fr_I (by decide) f3, fr_I (by decide) f4, Or.inl ⟨rfl, rfl, ⟨U, CS_fr (A := 2 ^ 9) (F := []) (fr_I (by decide) fr_refl) (by decide +kernel) q1, MS_fr (A := 2 ^ 78) (F := []) (fr_I (by decide) fr_refl) (by decide +kernel) q2⟩, fun j hj => ?_⟩⟩)
      show im_i (im_setI M39 78 i _) 78 j = im_i (im_setI M21 9 i _) 9 j
      rw [mi_I, mi_I, if_pos rfl, if_pos rfl]
      by_cases z : j = i
      · rw [if_pos z, if_pos z]
      · rw [if_neg z, if_neg z]
        exact keep j hj
theorem two_num {Mc Mr : im_M} {d i : Nat} {S : List Int32} {a1 a2 : Int32} (hi : i < 4) (hc : CS Mc d S) (hm : MS Mr S) : ed (f_HTape_takeNumber (nI i) Mc) (fun r1 => ed (rNum a1 a2 (nI i) Mr) (fun r2 => ND Mc Mr r1 r2 d)) := by
  unfold f_HTape_takeNumber rNum
  rw [s_nextC hc, bd1_s, s_peek hm, bd1_s]
  by_cases c : nxB S = 45
  · obtain ⟨T, rfl⟩ := hd_is c (by decide)
    obtain ⟨M5, e5, q5, f5⟩ := s_pass hc (by decide)
    obtain ⟨⟨x17, M17⟩, e17, _, q17, f17⟩ := s_nextM hm
    replace q17 : MS M17 T := q17
    replace f17 : fr 0 [(71, 8)] Mr M17 := f17
    have e1 : (if ¬ nxB (45 :: T) = 45 then (0 : Int32) else 1) = 1 := if_neg (fun z => z rfl)
    rw [e1]
    rw [if_neg (show ¬ (1 : Int32) = 0 by decide), if_neg (show ¬ (1 : Int32) = 0 by decide), e5, bd1_s, bd1_s, e17, bd2_s, s_peek q17, bd1_s, s_dgM, bd1_s]
    by_cases hd : dgB (nxB T) = 0
    · rw [if_neg (fun z => z hd), bd2_s, if_pos rfl]
      apply bd3_mk
      obtain ⟨⟨y19, y20, M21⟩, e1, ⟨y37, y38, M39⟩, e2, n, U, hn, n1, n2, n3, q1, q2, g1, g2, h0⟩ := two_digits (p0 := nI i) (mi := 1) (a1 := a1) (a2 := a2) (a3 := nI i) (a4 := 1) q5 q17
      replace n1 : y20 = nI n := n1
      have hn0 : n = 0 := h0.mpr hd
      subst hn0
      subst n1
      refine ⟨_, e1, ?_⟩
      show ed (if 5 < nI 0 then some ((0 : Int32), M21) else jn0 _ fun k22 => if (1 : Int32) = 0 then k22 () else if ¬ nI 0 = 0 then k22 () else some (0, M21)) _
      rw [if_neg (by decide)]
      simp only [jn0]
      rw [if_neg (show ¬ (1 : Int32) = 0 by decide), if_neg (show ¬ ¬ nI 0 = 0 by decide)]
      exact ed_mk (ed_mk ⟨fr_mono (by decide) (by decide) (fr_tr g1 f5), fr_mono (by decide) (by decide) f17, Or.inr ⟨rfl, rfl⟩⟩)
    · rw [if_pos hd, bd2_s, if_neg (show ¬ (1 : Int32) = 0 by decide)]
      exact two_fin hi q5 q17 f5 f17 (Or.inr ⟨rfl, hd⟩)
  · have e1 : (if ¬ nxB S = 45 then (0 : Int32) else 1) = 0 := if_pos c
    rw [e1]
    rw [if_pos rfl, if_pos rfl, bd1_s, bd2_s, if_neg (show ¬ (1 : Int32) = 0 by decide)]
    exact two_fin hi hc hm fr_refl fr_refl (Or.inl rfl)
/-- all numbers of a letter -/
def NDs (Mc Mr : im_M) (r1 r2 : Int32 × im_M) (d m : Nat) : Prop := fr (2 ^ 8 ||| 2 ^ 9) [] Mc r1.2 ∧ fr (2 ^ 78) [(71, 8)] Mr r2.2 ∧ ((r1.1 = 1 ∧ r2.1 = 0 ∧ (∃ T, CS r1.2 d T ∧ MS r2.2 T) ∧ ∀ j, j < m → im_i r2.2 78 j = im_i r1.2 9 j) ∨ (r1.1 = 0 ∧ r2.1 = 4))
def sumR (u : im_M ⊕ (Int32 × im_M)) (z : Int32) : Int32 × im_M := match u with
  | .inl M => (z, M)
  | .inr t => t
theorem bs1_sum {x : Option (im_M ⊕ (Int32 × im_M))} {z : Int32} : bs1 x (fun (M : im_M) => some (z, M)) (fun t => some t) = bd1 x (fun u => some (sumR u z)) := by
  cases x with
  | none => rfl
  | some u => cases u <;> rfl
theorem two_numbers {Mc Mr : im_M} {d m : Nat} {S : List Int32} {l : Int32} (hm4 : m ≤ 4) (hl : ¬ l = 75) (hc : CS Mc d S) (hm : MS Mr S) (hN : ∀ j, j < m → im_i Mr 78 j = im_i Mc 9 j) : ed (f_HTape_takeNumbers (nI m) Mc) (fun r1 => ed (bs1 (lp (uc2 (f_MScriptRows_takeNumbers_L32 l (nI m))) (0, Mr)) (fun (M50 : im_M) => some (0, M50)) (fun t => some t)) (fun r2 => NDs Mc Mr r1 r2 d m)) := by
  unfold f_HTape_takeNumbers
  rw [bs1_sum, bs1_sum]
  have L := lp_two (b1 := uc2 (f_HTape_takeNumbers_L2 (nI m))) (b2 := uc2 (f_MScriptRows_takeNumbers_L32 l (nI m))) (fun k (s1 : Int32 × im_M) (s2 : Int32 × im_M) => ∃ i T, i + k = m ∧ s1.1 = nI i ∧ s2.1 = nI i ∧ CS s1.2 d T ∧ MS s2.2 T ∧ fr (2 ^ 8 ||| 2 ^ 9) [] Mc s1.2 ∧ fr (2 ^ 78) [(71, 8)] Mr s2.2 ∧ ∀ j, j < m → im_i s2.2 78 j = im_i s1.2 9 j) (Q := fun u1 u2 => NDs Mc Mr (sumR u1 1) (sumR u2 0) d m) ?_ (k := m) (s1 := (0, Mc)) (s2 := (0, Mr)) ⟨0, S, by omega, rfl, rfl, hc, hm, fr_refl, fr_refl, hN⟩
  · obtain ⟨r1, e1, r2, e2, h⟩ := L
    rw [e1, e2, bd1_s, bd1_s]
    exact ed_mk (ed_mk h)
  · rintro k ⟨x3, M4⟩ ⟨x12, M13⟩ ⟨i, T, hk, e1, e2, q1, q2, f1, f2, hN⟩
    replace e1 : x3 = nI i := e1
    replace e2 : x12 = nI i := e2
    replace q1 : CS M4 d T := q1
    replace q2 : MS M13 T := q2
    replace f1 : fr (2 ^ 8 ||| 2 ^ 9) [] Mc M4 := f1
    replace f2 : fr (2 ^ 78) [(71, 8)] Mr M13 := f2
    replace hN : ∀ j, j < m → im_i M13 78 j = im_i M4 9 j := hN
    subst e1 e2
    show ed (f_HTape_takeNumbers_L2 (nI m) (nI i) M4) (tw _ _ k (nI i, M13) (f_MScriptRows_takeNumbers_L32 l (nI m) (nI i) M13))
    rw [L32_eq]
    unfold f_HTape_takeNumbers_L2
    rw [if_nIl (by omega) (by omega), if_nIl (by omega) (by omega)]
    by_cases c : m ≤ i
    · rw [if_pos c, if_pos c]
      exact two_r rfl ⟨f1, f2, Or.inl ⟨rfl, rfl, ⟨T, q1, q2⟩, hN⟩⟩
    · rw [if_neg c, if_neg c]
      apply bd2_mk
      obtain ⟨⟨x5, M5⟩, e5, ⟨x6, M42⟩, e6, g1, g2, h⟩ := two_num (a1 := l) (a2 := nI m) (show i < 4 by omega) q1 q2
      replace g1 : fr (2 ^ 8 ||| 2 ^ 9) [] M4 M5 := g1
      replace g2 : fr (2 ^ 78) [(71, 8)] M13 M42 := g2
      refine ⟨_, e5, ?_⟩
      rw [e6, bd2_s]
      have g3 := fr_tr g1 f1
      have g4 := fr_tr g2 f2
      rcases h with ⟨v1, v2, ⟨U, u1, u2⟩, hU⟩ | ⟨v1, v2⟩
      · replace v1 : x5 = 1 := v1
        replace v2 : x6 = 1 := v2
        replace u1 : CS M5 d U := u1
        replace u2 : MS M42 U := u2
        replace hU : ∀ j, im_i M13 78 j = im_i M4 9 j → im_i M42 78 j = im_i M5 9 j := hU
        subst v1 v2
        have hN5 : ∀ j, j < m → im_i M42 78 j = im_i M5 9 j := fun j hj => hU j (hN j hj)
        show ed (if ¬ (1 : Int32) = 0 then _ else _) _
        rw [if_pos (by decide), if_neg (show ¬ (1 : Int32) = 0 by decide), if_pos hl, s_nextC u1, bd1_s, s_peek u2, bd1_s]
        by_cases c44 : nxB U = 44
        · obtain ⟨V, rfl⟩ := hd_is c44 (by decide)
          obtain ⟨⟨x48, M48⟩, e48, _, q48, f48⟩ := s_nextM u2
          have em : nI m - 1 = nI (m - 1) := nI_m1 (by omega)
          have ei : (nI i = nI (m - 1)) = (i = m - 1) := nIe (by omega) (by omega)
          rw [if_pos c44, if_pos c44, e48, bd2_s, em]
          simp only [ei]
          by_cases cl : i = m - 1
          · rw [if_neg (fun z => z cl), if_neg (fun z => z cl)]
            exact two_r rfl ⟨g3, fr_tr (fr_mono (by decide) (by decide) f48) g4, Or.inr ⟨rfl, rfl⟩⟩
          · obtain ⟨M7, e7, q7, f7⟩ := s_pass u1 (by decide)
            rw [if_pos cl, if_pos cl, e7, bd1_s]
            refine two_l (k - 1) (by omega) (s2 := (nI i + 1, M48)) rfl ⟨i + 1, V, by omega, nI_add i 1, nI_add i 1, q7, q48, fr_tr (fr_mono (by decide) (by decide) f7) g3, fr_tr (fr_mono (by decide) (by decide) f48) g4, fun j hj => ?_⟩
            show im_i M48 78 j = im_i M7 9 j
            rw [f48.1 78 j (by decide) (by simp), f7.1 9 j (by decide) (by simp)]
            exact hN5 j hj
        · rw [if_neg c44, if_neg c44]
          exact two_r rfl ⟨g3, g4, Or.inl ⟨rfl, rfl, ⟨U, u1, u2⟩, hN5⟩⟩
      · replace v1 : x5 = 0 := v1
        replace v2 : x6 = 0 := v2
        subst v1 v2
        show ed (if ¬ (0 : Int32) = 0 then _ else _) _
        rw [if_neg (fun z => z rfl), if_pos rfl]
        exact two_r rfl ⟨g3, g4, Or.inr ⟨rfl, rfl⟩⟩
/-- the letter K: one number and a comma -/
theorem two_comma {Mc Mr : im_M} {d : Nat} {S : List Int32} (hc : CS Mc d S) (hm : MS Mr S) (hN : im_i Mr 78 0 = im_i Mc 9 0) : ed (f_HTape_takeNumberAndComma Mc) (fun r1 => ed (bs1 (lp (uc2 (f_MScriptRows_takeNumbers_L32 75 (nI 1))) (0, Mr)) (fun (M50 : im_M) => some (0, M50)) (fun t => some t)) (fun r2 => NDs Mc Mr r1 r2 d 1)) := by
  unfold f_HTape_takeNumberAndComma
  apply bd2_mk
  obtain ⟨⟨x5, M5⟩, e5, ⟨x6, M42⟩, e6, g1, g2, h⟩ := two_num (i := 0) (a1 := 75) (a2 := nI 1) (by omega) hc hm
  refine ⟨_, e5, ?_⟩
  replace g1 : fr (2 ^ 8 ||| 2 ^ 9) [] Mc M5 := g1
  replace g2 : fr (2 ^ 78) [(71, 8)] Mr M42 := g2
  have eb : ∀ r : im_M ⊕ (Int32 × im_M), f_MScriptRows_takeNumbers_L32 75 (nI 1) 0 Mr = some (.inr r) → (bs1 (lp (uc2 (f_MScriptRows_takeNumbers_L32 75 (nI 1))) (0, Mr)) (fun (M50 : im_M) => some (0, M50)) (fun t => some t)) = some (sumR r 0) := fun r hr => by
    rw [bs1_sum, lp_r (show uc2 (f_MScriptRows_takeNumbers_L32 75 (nI 1)) (0, Mr) = some (.inr r) from hr), bd1_s]
  rw [L32_eq, if_neg (by decide), show rNum 75 (nI 1) 0 Mr = some (x6, M42) from e6, bd2_s] at eb
  rcases h with ⟨v1, v2, ⟨U, u1, u2⟩, hU⟩ | ⟨v1, v2⟩
  · replace v1 : x5 = 1 := v1
    replace v2 : x6 = 1 := v2
    replace u1 : CS M5 d U := u1
    replace u2 : MS M42 U := u2
    replace hU : ∀ j, im_i Mr 78 j = im_i Mc 9 j → im_i M42 78 j = im_i M5 9 j := hU
    subst v1 v2
    obtain ⟨⟨x49, M49⟩, e49, v49, q49, f49⟩ := s_nextM u2
    replace v49 : x49 = nxB U := v49
    subst v49
    rw [if_neg (show ¬ (1 : Int32) = 0 by decide), if_neg (show ¬ ¬ (75 : Int32) = 75 by decide), e49, bd2_s] at eb
    show ed (if (1 : Int32) = 0 then _ else _) _
    rw [if_neg (show ¬ (1 : Int32) = 0 by decide), s_nextC u1, bd1_s]
    by_cases c44 : nxB U = 44
    · rw [if_neg (fun z => z c44)] at eb
      obtain ⟨V, rfl⟩ := hd_is c44 (by decide)
      obtain ⟨M7, e7, q7, f7⟩ := s_pass u1 (by decide)
      rw [if_pos c44, e7, bd1_s, eb _ rfl]
      refine ed_mk (ed_mk ⟨fr_tr (fr_mono (by decide) (by decide) f7) g1, fr_tr (fr_mono (by decide) (by decide) f49) g2, Or.inl ⟨rfl, rfl, ⟨V, q7, q49⟩, fun j hj => ?_⟩⟩)
      obtain rfl : j = 0 := by omega
      show im_i M49 78 0 = im_i M7 9 0
      rw [f49.1 78 0 (by decide) (by decide), f7.1 9 0 (by decide) (by decide)]
      exact hU 0 hN
    · rw [if_pos c44] at eb
      rw [if_neg c44, eb _ rfl]
      exact ed_mk (ed_mk ⟨g1, fr_tr (fr_mono (by decide) (by decide) f49) g2, Or.inr ⟨rfl, rfl⟩⟩)
  · replace v1 : x5 = 0 := v1
    replace v2 : x6 = 0 := v2
    subst v1 v2
    rw [if_pos rfl] at eb
    show ed (if (0 : Int32) = 0 then _ else _) _
    rw [if_pos rfl, eb _ rfl]
    exact ed_mk (ed_mk ⟨g1, g2, Or.inr ⟨rfl, rfl⟩⟩)
