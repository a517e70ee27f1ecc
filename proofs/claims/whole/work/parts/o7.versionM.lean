/-! THE VERSION, BY THE REFERENCE -/
theorem sh_c : ∀ c : Fin 17, ((1 : Int32) <<< (nI c.val &&& 31 : Int32) : Int32) = nI (2 ^ c.val) := by decide +kernel
theorem s_fits {M : im_M} {n v l : Nat} {t : Nat → Nat} (q : TQ M n t) (qt : TBR M) (hv : 1 ≤ v ∧ v ≤ 40) (hl : l < 4) (hfit : TK t n (gp v) n 6 ≤ 8 * HO v l) : ed (f_MSquareRows_fits (nI v) (nI l) M) (fun r => r.1 = 1 ∧ (∀ i, i < n → im_i r.2 117 i = nI (mdS t n (gp v) i)) ∧ fr (2 ^ 117 ||| 2 ^ 118) [(108, 16)] M r.2) := by
  have hg := gp_3 (v := v)
  have hn := q.2.1
  have hh : HO v l ≤ 2956 := (tb_hold ⟨v, by omega⟩ ⟨l, hl⟩ hv.1).2.1
  unfold f_MSquareRows_fits
  rw [s_rank hv.2, bd1_s]
  apply bd1_mk
  refine ed_mono (s_divideM q hg) ?_
  rintro M2 ⟨b2, m2, f2⟩
  have q2 := TQ_fr f2 (by decide +kernel) q
  have e8 : (8 : Int32) * nI (HO v l) = nI (8 * HO v l) := nI_m 8
  rw [s_holdsR (TBR_fr f2 (by decide +kernel) qt) hv hl, bd1_s, e8, b2, if_nIlt (by omega) (by omega), if_neg (by omega)]
  have run : ed (lp (uc3 (f_MSquareRows_fits_L36 (nI v) M2)) (1, 0, 0)) (fun r => r = 1) := by
    refine lp_inv (fun f (s : Int32 × Int32 × Int32) => ∃ p r : Nat, p + f = n ∧ r ≤ p ∧ s.1 = 1 ∧ s.2.1 = nI r ∧ s.2.2 = nI p) ?_ (k := n) ⟨0, 0, by omega, Nat.le_refl _, rfl, rfl, rfl⟩
    rintro f ⟨x7, x8, x9⟩ ⟨p, r, hp, rp, e1, e2, e3⟩
    replace e1 : x7 = 1 := e1
    replace e2 : x8 = nI r := e2
    replace e3 : x9 = nI p := e3
    subst e1 e2 e3
    show ed (f_MSquareRows_fits_L36 (nI v) M2 1 (nI r) (nI p)) _
    unfold f_MSquareRows_fits_L36
    rw [q2.1, if_nIl (by omega) (by omega)]
    by_cases c : n ≤ p
    · rw [if_pos c]
      exact lpo_r rfl
    · have mp := md_lt (t := t) (n := n) (g := gp v) (i := p)
      have rn : ∃ r2 : Nat, r2 ≤ p + 1 ∧ (jn0 (fun (_ : Unit) => some (1 : Int32)) fun k12 => if nI p ≤ 0 then k12 () else gd (inb (nI p) 3000) <| gd (inb (nI p - 1) 3000) <| if ¬ (im_i M2 117 (Int32.toNatClampNeg (nI p))) = (im_i M2 117 (Int32.toNatClampNeg (nI p - 1))) then k12 () else some (nI r + 1)) = some (nI r2) := by
        have k0 : (nI p ≤ 0) = (p ≤ 0) := nIl (c := 0) (by omega) (by omega)
        simp only [jn0, k0]
        by_cases z : p ≤ 0
        · exact ⟨1, by omega, by rw [if_pos z]; rfl⟩
        · rw [if_neg z, nI_m1 (by omega), gd_pos (by rw [inb_nI (by omega)]; omega), gd_pos (by rw [inb_nI (by omega)]; omega)]
          by_cases y : im_i M2 117 (Int32.toNatClampNeg (nI p)) = im_i M2 117 (Int32.toNatClampNeg (nI (p - 1)))
          · rw [if_neg (fun w => w y)]
            exact ⟨r + 1, by omega, congrArg some (nI_add r 1)⟩
          · rw [if_pos y]
            exact ⟨1, by omega, rfl⟩
      obtain ⟨r2, hr2, er⟩ := rn
      rw [if_neg c, er, bd1_s]
      obtain ⟨_, c16, c8⟩ := tb_cb ⟨gp v, hg⟩ ⟨mdS t n (gp v) p, mp⟩
      replace c16 : cbS (gp v) (mdS t n (gp v) p) ≤ 16 := c16
      replace c8 : 8 ≤ cbS (gp v) (mdS t n (gp v) p) := c8
      have p8 : 2 ^ 8 ≤ 2 ^ cbS (gp v) (mdS t n (gp v) p) := Nat.pow_le_pow_right (by omega) c8
      have p16 : 2 ^ cbS (gp v) (mdS t n (gp v) p) ≤ 2 ^ 16 := Nat.pow_le_pow_right (by omega) c16
      have rl : f_MSquareRows_lengthBits (nI (mdS t n (gp v) p)) (nI (gp v)) M2 = some (nI (cbS (gp v) (mdS t n (gp v) p))) := rf_lb ⟨gp v, hg⟩ ⟨_, mp⟩
      have sc : ((1 : Int32) <<< (nI (cbS (gp v) (mdS t n (gp v) p)) &&& 31 : Int32) : Int32) = nI (2 ^ cbS (gp v) (mdS t n (gp v) p)) := sh_c ⟨cbS (gp v) (mdS t n (gp v) p), by omega⟩
      simp only [jn0]
      rw [if_neg (show ¬ (1 : Int32) = 0 by decide), gd_pos (by rw [inb_nI (by omega)]; omega), nI_clamp (by omega), m2 p (by omega), s_rank hv.2, bd1_s, rl, bd1_s, sc, if_nIl (by omega) (by omega), if_neg (by omega), bd1_s]
      exact lpo_l (f - 1) (by omega) ⟨p + 1, r2, by omega, hr2, rfl, rfl, nI_add p 1⟩
  obtain ⟨r, hr, rfl⟩ := run
  rw [hr, bd1_s, gd_pos (by decide)]
  exact ed_mk ⟨rfl, m2, f2⟩
def frV (r : Nat) : Nat := if r = 0 then 1 else if r = 1 then 10 else 27
def toV (r : Nat) : Nat := if r = 0 then 9 else if r = 1 then 26 else 40
theorem gv_t {r v : Nat} (hr : r < 3) (h : frV r ≤ v ∧ v ≤ toV r) : gp v = r ∧ 1 ≤ v ∧ v ≤ 40 := by
  unfold frV toV at h
  unfold gp
  have c : r = 0 ∨ r = 1 ∨ r = 2 := by omega
  rcases c with rfl | rfl | rfl
  · rw [if_pos rfl, if_pos rfl] at h
    rw [if_pos (by omega)]
    omega
  · rw [if_neg (by omega), if_pos rfl, if_neg (by omega), if_pos rfl] at h
    rw [if_neg (by omega), if_pos (by omega)]
    omega
  · rw [if_neg (by omega), if_neg (by omega), if_neg (by omega), if_neg (by omega)] at h
    rw [if_neg (by omega), if_neg (by omega)]
    omega
theorem s_versionFor {M : im_M} {n l : Nat} {t : Nat → Nat} (q : TQ M n t) (qt : TBR M) (hl : l < 4) : ed (f_MSquareRows_versionFor (nI l) 0 M) (fun r => ∃ v, VR t n l v ∧ r.1 = nI v ∧ (∀ i, i < n → im_i r.2 117 i = nI (mdS t n (gp v) i)) ∧ fr (2 ^ 117 ||| 2 ^ 118) [(108, 16)] M r.2) := by
  have hn := q.2.1
  unfold f_MSquareRows_versionFor
  rw [if_pos (by decide)]
  apply bs1_mk
  refine ed_mono (lp_inv (fun f (s : Int32 × im_M) => ∃ r : Nat, r + f = 2 ∧ s.1 = nI r ∧ (∀ u, 1 ≤ u → u < frV r → 8 * HO u l < TK t n (gp u) n 6) ∧ fr (2 ^ 117 ||| 2 ^ 118) [(108, 16)] M s.2) (Q := fun (u : im_M ⊕ (Int32 × im_M)) => match u with
    | .inl _ => False
    | .inr r => ∃ v, VR t n l v ∧ r.1 = nI v ∧ (∀ i, i < n → im_i r.2 117 i = nI (mdS t n (gp v) i)) ∧ fr (2 ^ 117 ||| 2 ^ 118) [(108, 16)] M r.2) ?_ (k := 2) ⟨0, rfl, rfl, fun u h1 h2 => absurd h2 (by show ¬ u < 1; omega), fr_refl⟩) ?_
  · rintro f ⟨x3, M4⟩ ⟨r, hr, e1, hu, f4⟩
    replace e1 : x3 = nI r := e1
    replace f4 : fr (2 ^ 117 ||| 2 ^ 118) [(108, 16)] M M4 := f4
    subst e1
    show ed (f_MSquareRows_versionFor_L21 (nI l) (nI r) M4) _
    unfold f_MSquareRows_versionFor_L21
    have k3 : ((3 : Int32) ≤ nI r) = (3 ≤ r) := nIl (x := 3) (by omega) (by omega)
    have k0 : (nI r = 0) = (r = 0) := nIe (c := 0) (by omega) (by omega)
    have k1 : (nI r = 1) = (r = 1) := nIe (c := 1) (by omega) (by omega)
    have ef : ((if ¬ r = 0 then (if ¬ r = 1 then 27 else 10) else 1) : Int32) = nI (frV r) := by
      have : r = 0 ∨ r = 1 ∨ r = 2 := by omega
      rcases this with rfl | rfl | rfl <;> rfl
    have et : ((if ¬ r = 0 then (if ¬ r = 1 then 40 else 26) else 9) : Int32) = nI (toV r) := by
      have : r = 0 ∨ r = 1 ∨ r = 2 := by omega
      rcases this with rfl | rfl | rfl <;> rfl
    have ft : frV r ≤ toV r ∧ toV r ≤ 40 ∧ 1 ≤ frV r ∧ (r < 2 → frV (r + 1) = toV r + 1) ∧ (r = 2 → toV r = 40) := by
      have : r = 0 ∨ r = 1 ∨ r = 2 := by omega
      rcases this with rfl | rfl | rfl <;> decide
    simp only [k3, k0, k1, ef, et]
    rw [if_neg (by omega)]
    apply bd1_mk
    refine ed_mono (s_divideM (TQ_fr f4 (by decide +kernel) q) (show r < 3 by omega)) ?_
    rintro M7 ⟨b7, m7, f7⟩
    have f7a := fr_tr f7 f4
    have tb := TK_b (t := t) (n := n) (g := r) (by omega) n 6 (by omega)
    apply bs1_mk
    refine ed_mono (lp_inv (fun g (s : Int32 × im_M) => ∃ v : Nat, v + g = toV r + 1 ∧ frV r ≤ v ∧ s.1 = nI v ∧ (∀ u, 1 ≤ u → u < v → 8 * HO u l < TK t n (gp u) n 6) ∧ s.2 = M7) (Q := fun (u : im_M ⊕ (Int32 × im_M)) => match u with
      | .inl N => N = M7 ∧ r < 2 ∧ ∀ u, 1 ≤ u → u < frV (r + 1) → 8 * HO u l < TK t n (gp u) n 6
      | .inr r => ∃ v, VR t n l v ∧ r.1 = nI v ∧ (∀ i, i < n → im_i r.2 117 i = nI (mdS t n (gp v) i)) ∧ fr (2 ^ 117 ||| 2 ^ 118) [(108, 16)] M r.2) ?_ (k := toV r + 1 - frV r) ⟨frV r, by omega, Nat.le_refl _, rfl, hu, rfl⟩) ?_
    · rintro g ⟨x12, M13⟩ ⟨v, hv, fv, e1, hu, e2⟩
      replace e1 : x12 = nI v := e1
      replace e2 : M13 = M7 := e2
      subst e1 e2
      show ed (f_MSquareRows_versionFor_L80 (nI l) (nI r) (nI (toV r)) (nI v) M13) _
      unfold f_MSquareRows_versionFor_L80
      rw [if_nIlt (by omega) (by omega)]
      by_cases c : toV r < v
      · rw [if_pos c]
        have r2 : r < 2 := by
          by_cases z : r < 2
          · exact z
          · exfalso
            have := hu 40 (by omega) (by have := ft.2.2.2.2 (by omega); omega)
            have := fit_40 (t := t) hn hl
            omega
        refine lpo_r ⟨rfl, r2, fun u h1 h2 => hu u h1 ?_⟩
        have := ft.2.2.2.1 r2
        omega
      · obtain ⟨g1, g2, g3⟩ := gv_t (show r < 3 by omega) ⟨fv, show v ≤ toV r by omega⟩
        have hh : HO v l ≤ 2956 := (tb_hold ⟨v, by omega⟩ ⟨l, hl⟩ g2).2.1
        have e8 : (8 : Int32) * nI (HO v l) = nI (8 * HO v l) := nI_m 8
        have t7 := TBR_fr f7a (by decide +kernel) qt
        rw [if_neg c, s_holdsR t7 ⟨g2, g3⟩ hl, bd1_s, e8, b7]
        simp only [jn1]
        rw [if_nIlt (by omega) (by omega)]
        by_cases z : 8 * HO v l < TK t n r n 6
        · rw [if_pos z]
          refine lpo_l (g - 1) (by omega) ⟨v + 1, by omega, by omega, nI_add v 1, fun u h1 h2 => ?_, rfl⟩
          by_cases y : u = v
          · rw [y, g1]; exact z
          · exact hu u h1 (by omega)
        · rw [if_neg z]
          apply bd2_mk
          have zz : TK t n (gp v) n 6 ≤ 8 * HO v l := by rw [g1]; omega
          refine ed_mono (s_fits (TQ_fr f7a (by decide +kernel) q) t7 ⟨g2, g3⟩ hl zz) ?_
          rintro ⟨x16, M16⟩ ⟨w1, w2, w3⟩
          replace w1 : x16 = 1 := w1
          subst w1
          rw [if_neg (show ¬ (1 : Int32) = 0 by decide)]
          exact lpo_r ⟨v, ⟨g2, g3, zz, hu⟩, rfl, w2, fr_tr w3 f7a⟩
    · rintro (N | r) hr
      · obtain ⟨rfl, r2, h2⟩ := hr
        exact lpo_l (f - 1) (by omega) ⟨r + 1, by omega, nI_add r 1, h2, f7a⟩
      · exact lpo_r hr
  · rintro (z | r) hr
    · exact hr.elim
    · exact ed_mk hr
/-- the bytes of an order are put into the reference's row -/
theorem pt_tab : ∀ b : Fin 256, Int64.toInt32 ((Int32.toInt64 (nI b.val) >>> (Int32.toInt64 ((8 : Int32) * 0) &&& 63) : Int64) &&& 255) = nI b.val := by decide +kernel
theorem s_putR {M : im_M} {n b : Nat} (h : im_i M 108 4 = nI n) (hn : n < 200) (hb : b < 256) : f_MSquareRows_put 1 (Int32.toInt64 (nI b)) M = some (nI (n + 1), im_setI (im_setI (im_setI M 108 0 0) 111 n (nI b)) 108 4 (nI (n + 1))) := by
  have w2 : Int64.toInt32 ((Int32.toInt64 (nI b) >>> (Int32.toInt64 ((8 : Int32) * 0) &&& 63) : Int64) &&& 255) = nI b := pt_tab ⟨b, hb⟩
  unfold f_MSquareRows_put
  rw [if_neg (show ¬ (1 : Int32) < 1 by decide), if_pos (show (1 : Int32) ≤ 8 by decide)]
  obtain ⟨N, hN⟩ : ∃ N, N = im_setI M 108 0 0 := ⟨_, rfl⟩
  have n0 : im_i N 108 0 ≤ 0 := by rw [hN, hit]; decide
  have n4 : im_i N 108 4 = nI n := by rw [hN, sk1 (by omega)]; exact h
  have a1 : nI n + 1 = nI (n + 1) := nI_add n 1
  have k0 : (nI (n + 1) ≤ (3000 : Int32)) := by
    have : (nI (n + 1) ≤ (3000 : Int32)) = (n + 1 ≤ 3000) := nIl (c := 3000) (by omega) (by omega)
    rw [this]; omega
  rw [← hN, if_pos n0, n4, a1, if_pos k0]
  obtain ⟨N2, hN2⟩ : ∃ N2, N2 = im_setI (im_setI N 111 n (nI b)) 108 4 (nI (n + 1)) := ⟨_, rfl⟩
  have e3 : uc2 (f_MSquareRows_put_L46 1 (Int32.toInt64 (nI b))) (0, N) = some (.inl (0 + 1, N2)) := by
    show f_MSquareRows_put_L46 1 (Int32.toInt64 (nI b)) 0 N = _
    unfold f_MSquareRows_put_L46
    rw [if_neg (show ¬ (1 : Int32) ≤ 0 by decide), n4, gd_pos (by rw [inb_nI (by omega)]; omega), w2, nI_clamp (by omega), sk1 (by omega), n4, a1, hN2]
  have e4 : uc2 (f_MSquareRows_put_L46 1 (Int32.toInt64 (nI b))) (0 + 1, N2) = some (.inr N2) := by
    show f_MSquareRows_put_L46 1 (Int32.toInt64 (nI b)) (0 + 1) N2 = _
    unfold f_MSquareRows_put_L46
    rw [if_pos (show (1 : Int32) ≤ 0 + 1 by decide)]
  have n24 : im_i N2 108 4 = nI (n + 1) := by rw [hN2]; exact hit
  rw [lp_l e3 (lp_r e4), bd1_s, n24, ← hN2]
