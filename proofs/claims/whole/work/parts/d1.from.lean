/-! THE CLASS LOOKS FROM EACH CORNER -/
theorem eq4 {N a r b t : Nat} (h : r < N) (h2 : t < N) (e : a * N + r = b * N + t) : a = b ∧ r = t := by
  rcases Nat.lt_trichotomy a b with c | c | c
  · have : (a + 1) * N ≤ b * N := Nat.mul_le_mul_right N c
    rw [Nat.add_mul] at this
    omega
  · subst c; exact ⟨rfl, by omega⟩
  · have : (b + 1) * N ≤ a * N := Nat.mul_le_mul_right N c
    rw [Nat.add_mul] at this
    omega
theorem cde_eq {x y v c x' y' v' c' : Nat} (hx : x < 512) (hx' : x' < 512) (hv : v < 64) (hv' : v' < 64) (hc : c < 4) (hc' : c' < 4) (e : cde x y c v = cde x' y' c' v') : x = x' ∧ y = y' ∧ v = v' ∧ c = c' := by
  unfold cde at e
  have e1 := eq4 hv hv' e
  have e2 := eq4 hc hc' e1.1
  have e3 := eq4 hx hx' e2.1
  exact ⟨e3.2, e3.1, e1.2, e2.2⟩
theorem cde_g {A B v a : Nat} (hv : v < 64) (h1 : A * 64 + a ≤ B * 64 + v) (h2 : B * 64 + v < (A + 1) * 64 + 0) : B = A ∧ a ≤ v := by omega
theorem cde_h {A B v : Nat} (hv : v < 64) (h1 : A * 64 + 0 ≤ B * 64 + v) (h2 : B * 64 + v < A * 64 + 1) : v = 0 := by omega
theorem cde_p {P Q v f c : Nat} (hv : v < 64) (hf : f < 4) (hc : c < 4) (h1 : (P * 4 + c) * 64 + 0 ≤ (Q * 4 + f) * 64 + v) (h2 : (Q * 4 + f) * 64 + v < ((P + 1) * 4 + 0) * 64 + 0) : Q = P := by omega
theorem frL_refl {M : im_M} : fr (2 ^ 62 ||| 2 ^ 63 ||| 2 ^ 65) [(59, 8)] M M := fr_refl
/-- where the corner lies from which a place is looked at -/
theorem pc_k {W H lo hi lim k : Nat} {D : Nat → Nat → Bool} (h : StP W H D lo hi lim k) (hW : W ≤ 512) (h1 : 1 ≤ lo) : ∃ f X Y, f < 4 ∧ fcn (qC D lim (km k) (kv k) (kx k) (ky k)) = f ∧ X = kx k + km k * oX (kv k) (cnR f) ∧ Y = ky k + km k * oX (kv k) (cnD f) ∧ pcK D lim k = cde X Y f (kv k) ∧ egE D (km k) X Y f ≤ ((lim / 3 : Nat) : Int) ∧ hEd W H (km k) X Y f ∧ X + 7 * km k ≤ W ∧ Y + 7 * km k ≤ H ∧ X < 512 := by
  obtain ⟨f1, f2⟩ := StP_f h
  obtain ⟨hm, hv, hb, _⟩ := h
  have o1 := oX_le (v := kv k) (y := cnR (fcn (qC D lim (km k) (kv k) (kx k) (ky k)))) (m := km k)
  have o2 := oX_le (v := kv k) (y := cnD (fcn (qC D lim (km k) (kv k) (kx k) (ky k)))) (m := km k)
  unfold ksz at hb
  rw [eC_eg] at f2
  exact ⟨_, _, _, f1, rfl, rfl, rfl, rfl, f2, hEd_of hb.1 hb.2, by omega, by omega, by omega⟩
theorem SC_gap {W H lo hi lim m T U : Nat} {D : Nat → Nat → Bool} (hTU : T ≤ U) (h : ∀ k, StP W H D lo hi lim k → km k = m → T ≤ pcK D lim k → pcK D lim k < U → False) (k : Nat) : SC W H D lo hi lim m T k ↔ SC W H D lo hi lim m U k := by
  unfold SC
  constructor
  · rintro ⟨a, b | ⟨b, c⟩⟩
    · exact ⟨a, Or.inl b⟩
    · exact ⟨a, Or.inr ⟨b, by omega⟩⟩
  · rintro ⟨a, b | ⟨b, c⟩⟩
    · exact ⟨a, Or.inl b⟩
    · rcases Nat.lt_or_ge (pcK D lim k) T with z | z
      · exact ⟨a, Or.inr ⟨b, z⟩⟩
      · exact (h k a b z c).elim
theorem lookAt_out {M : im_M} {W H m lim v : Nat} {p : Int32} {x y : Int} (g : MLW M m lim W H) (hv : v ≤ 40) (hx : -10000 ≤ x ∧ x ≤ 10000) (hy : -10000 ≤ y ∧ y ≤ 10000) (h : x < 0 ∨ y < 0 ∨ (W : Int) < x + ((m * (17 + 4 * v) : Nat) : Int) ∨ (H : Int) < y + ((m * (17 + 4 * v) : Nat) : Int)) : f_HFinder_lookAt (iZ x) (iZ y) (nI v) p M = some (1, M) := by
  obtain ⟨⟨g1, g2, gw, gh⟩, hm1, hm, hl, hW, hH⟩ := id g
  have hms : m * (17 + 4 * v) ≤ 16 * 177 := Nat.mul_le_mul hm (by omega)
  have e17 : (17 : Int32) + (4 : Int32) * nI v = nI (17 + 4 * v) := by rw [nI_m, nI_n, nI_add]
  unfold f_HFinder_lookAt
  rw [e17, g1, gw, gh, nI_mul, Nat.mul_comm (17 + 4 * v) m]
  have ex : iZ x + nI (m * (17 + 4 * v)) = iZ (x + ((m * (17 + 4 * v) : Nat) : Int)) := by rw [iZ_nI, iZ_add]
  have ey : iZ y + nI (m * (17 + 4 * v)) = iZ (y + ((m * (17 + 4 * v) : Nat) : Int)) := by rw [iZ_nI, iZ_add]
  have c0 : ∀ z : Int, -10000 ≤ z ∧ z ≤ 10000 → (iZ z < 0) = (z < 0) := fun z hz => iZ_lt (b := 0) (by omega) (by omega)
  rw [ex, ey, iZ_nI (n := W), iZ_nI (n := H), if_iZlt (by omega) (by omega), if_iZlt (by omega) (by omega)]
  simp only [c0 x hx, c0 y hy]
  by_cases c1 : x < 0
  · rw [if_pos c1]
  · rw [if_neg c1]
    by_cases c2 : y < 0
    · rw [if_pos c2]
    · rw [if_neg c2]
      by_cases c3 : (W : Int) < x + ((m * (17 + 4 * v) : Nat) : Int)
      · rw [if_pos c3]
      · rw [if_neg c3, if_pos (by omega)]
/-- what the class needs to look, and what it changes -/
def LK (M : im_M) (W H m lim : Nat) (D : Nat → Nat → Bool) : Prop := SUMS (im_i M 60) W H D ∧ MLW M m lim W H ∧ CWS (im_i M 61) W D m lim (H - 7 * m + 1)
theorem LK_fr {A : Nat} {F : List (Nat × Nat)} {M M' : im_M} {W H m lim : Nat} {D : Nat → Nat → Bool} (h : fr A F M M') (c : clr A F [60, 61] [(59, 9), (59, 10), (28, 0), (28, 1)] [] = true) (q : LK M W H m lim D) : LK M' W H m lim D := by
  unfold LK MLW at q ⊢
  rw [clr_f c h (a := 59) (k := 9) (by decide), clr_f c h (a := 59) (k := 10) (by decide), clr_f c h (a := 28) (k := 0) (by decide), clr_f c h (a := 28) (k := 1) (by decide), clr_a c h (a := 60) (by decide), clr_a c h (a := 61) (by decide)]
  exact q
def frL (M M' : im_M) : Prop := fr (2 ^ 62 ||| 2 ^ 63 ||| 2 ^ 65) [(59, 8)] M M'
theorem LK_L {M M' : im_M} {W H m lim : Nat} {D : Nat → Nat → Bool} (h : frL M M') (q : LK M W H m lim D) : LK M' W H m lim D := LK_fr h (by decide +kernel) q
theorem s_lookC {M : im_M} {W H m lim lo hi v c cx cy : Nat} {D : Nat → Nat → Bool} (L : LK M W H m lim D) (hlo : 1 ≤ lo ∧ lo ≤ m ∧ m ≤ hi) (hv : 1 ≤ v ∧ v ≤ 40) (hc : c < 4) (hcx : cx < 512) (hcy : cy < 512) (hg : egE D m cx cy c ≤ ((lim / 3 : Nat) : Int)) (hF : FS M D (SC W H D lo hi lim m (cde cx cy c v))) : ed (f_HFinder_lookAt (nI cx - nI ((10 + 4 * v) * m) * xa_13 (nI c)) (nI cy - nI ((10 + 4 * v) * m) * xa_14 (nI c)) (nI v) (nI c) M) (fun r => frL M r.2 ∧ ((r.1 = 1 ∧ FS r.2 D (SC W H D lo hi lim m (cde cx cy c v + 1))) ∨ (r.1 = 0 ∧ OV (StP W H D lo hi lim)))) := by
  obtain ⟨hs, g, hw⟩ := L
  obtain ⟨⟨g1, g2, gw, gh⟩, hm1, hm, hl, hW, hH⟩ := id g
  have t : xa_13 (nI c) = nI (if cnR c = true then 1 else 0) ∧ xa_14 (nI c) = nI (if cnD c = true then 1 else 0) := xR_t ⟨c, hc⟩
  have far : ∀ (z : Nat) (b : Bool), nI z - nI ((10 + 4 * v) * m) * nI (if b = true then 1 else 0) = iZ ((z : Int) - ((m * oX v b : Nat) : Int)) := by
    intro z b
    have := far_1 (v := v) (m := m) (x := 0) (y := b)
    rw [Nat.zero_add] at this
    have h0 : nI 0 + nI ((10 + 4 * v) * m) * nI (if b = true then 1 else 0) = nI ((10 + 4 * v) * m) * nI (if b = true then 1 else 0) := by rw [nI_mul, nI_add, Nat.zero_add]
    rw [← h0, this, iZ_nI, iZ_nI, iZ_sub]
  have oR := oX_le (v := v) (y := cnR c) (m := m)
  have oD := oX_le (v := v) (y := cnD c) (m := m)
  have hms : m * (17 + 4 * v) ≤ 16 * 177 := Nat.mul_le_mul hm (by omega)
  rw [t.1, t.2, far, far]
  have dec : ∀ k, StP W H D lo hi lim k → km k = m → pcK D lim k = cde cx cy c v → kv k = v ∧ fcn (qC D lim m v (kx k) (ky k)) = c ∧ cx = kx k + m * oX v (cnR c) ∧ cy = ky k + m * oX v (cnD c) := by
    intro k hk hkm e
    obtain ⟨f, X, Y, f4, ff, eX, eY, ep, _, _, _, _, hX⟩ := pc_k hk hW hlo.1
    have hk2 := hk.2.1
    rw [ep] at e
    obtain ⟨a, b, d, h⟩ := cde_eq hX hcx (by omega) (by omega) f4 hc e
    subst h
    rw [hkm, d] at ff eX eY
    exact ⟨d, ff, by omega, by omega⟩
  by_cases inb : m * oX v (cnR c) ≤ cx ∧ m * oX v (cnD c) ≤ cy ∧ cx - m * oX v (cnR c) + m * (17 + 4 * v) ≤ W ∧ cy - m * oX v (cnD c) + m * (17 + 4 * v) ≤ H
  · obtain ⟨i1, i2, i3, i4⟩ := inb
    obtain ⟨x, hx⟩ : ∃ x, x = cx - m * oX v (cnR c) := ⟨_, rfl⟩
    obtain ⟨y, hy⟩ : ∃ y, y = cy - m * oX v (cnD c) := ⟨_, rfl⟩
    rw [← hx] at i3
    rw [← hy] at i4
    have ex : ((cx : Int) - ((m * oX v (cnR c) : Nat) : Int)) = ((x : Nat) : Int) := by omega
    have ey : ((cy : Int) - ((m * oX v (cnD c) : Nat) : Int)) = ((y : Nat) : Int) := by omega
    have cxe : cx = x + m * oX v (cnR c) := by omega
    have cye : cy = y + m * oX v (cnD c) := by omega
    rw [ex, ey, ← iZ_nI, ← iZ_nI]
    have hqc : qC D lim m v x y c = true := by
      unfold qC
      rw [eC_eg, ← cxe, ← cye]
      exact decide_eq_true hg
    have hms2 : m * 21 ≤ m * (17 + 4 * v) := Nat.mul_le_mul_left m (by omega)
    have pcb : ∀ k, bK x y m v k → fcn (qC D lim m v x y) = c → pcK D lim k = cde cx cy c v := by
      rintro k ⟨rfl, rfl, rfl, rfl⟩ e
      unfold pcK pcB
      rw [e, ← cxe, ← cye]
    have stb : ∀ k, bK x y m v k → eW D k ≤ (lim : Int) → StP W H D lo hi lim k := by
      intro k hb he
      have hk := hb
      obtain ⟨r1, r2, r3, r4⟩ := hb
      refine ⟨by rw [r3]; exact hlo.2, by rw [r4]; exact hv, ?_, he⟩
      unfold ksz
      rw [r1, r2, r3, r4]
      exact ⟨i3, i4⟩
    refine ed_mono (s_lookAt hs g hw hF hv i3 i4 hc hqc ?_) ?_
    · intro e q hq z
      have kb := (bK_key (x := x) (y := y) (m := m) (v := v) (q := q) (by omega) (by omega) (by omega) hq).1
      have := pcb _ kb e
      rcases z.2 with a | ⟨_, a⟩
      · have := kb.2.2.1; omega
      · omega
    · rintro ⟨r, M3⟩ ⟨f, h⟩
      refine ⟨f, ?_⟩
      rcases h with ⟨e, h⟩ | ⟨e, h⟩
      · refine Or.inl ⟨e, FS_S (fun k => ?_) h⟩
        constructor
        · rintro (a | ⟨a, b, d⟩)
          · refine ⟨a.1, ?_⟩
            rcases a.2 with z | ⟨z, z2⟩
            · exact Or.inl z
            · exact Or.inr ⟨z, by omega⟩
          · exact ⟨stb k b d, Or.inr ⟨b.2.2.1, by rw [pcb k b a]; omega⟩⟩
        · rintro ⟨a, b | ⟨b, d⟩⟩
          · exact Or.inl ⟨a, Or.inl b⟩
          · rcases Nat.lt_or_ge (pcK D lim k) (cde cx cy c v) with z | z
            · exact Or.inl ⟨a, Or.inr ⟨b, z⟩⟩
            · obtain ⟨k1, k2, k3, k4⟩ := dec k a b (by omega)
              have kx1 : kx k = x := by omega
              have ky1 : ky k = y := by omega
              rw [kx1, ky1] at k2
              exact Or.inr ⟨k2, ⟨kx1, ky1, b, k1⟩, a.2.2.2⟩
      · refine Or.inr ⟨e, OV_S (fun k => ?_) h⟩
        rintro (a | ⟨a, b⟩)
        · exact a.1
        · exact stb k a b
  · rw [lookAt_out g hv.2 (by omega) (by omega) (by omega)]
    refine ed_mk ⟨fr_refl, Or.inl ⟨rfl, FS_S (SC_gap (by omega) ?_) hF⟩⟩
    intro k hk hkm h1 h2
    obtain ⟨k1, k2, k3, k4⟩ := dec k hk hkm (by omega)
    have := hk.2.2.1
    unfold ksz at this
    rw [k1, hkm] at this
    exact inb (by omega)
theorem s_lookFrom {M : im_M} {W H m lim lo hi c cx cy : Nat} {D : Nat → Nat → Bool} (L : LK M W H m lim D) (hlo : 1 ≤ lo ∧ lo ≤ m ∧ m ≤ hi) (hc : c < 4) (hcx : cx < 512) (hcy : cy < 512) (hg : egE D m cx cy c ≤ ((lim / 3 : Nat) : Int)) (hF : FS M D (SC W H D lo hi lim m (cde cx cy c 0))) : ed (f_HFinder_lookFrom (nI cx) (nI cy) (nI c) (nI (if H < W then H else W)) M) (fun r => frL M r.2 ∧ ((r.1 = 1 ∧ FS r.2 D (SC W H D lo hi lim m (cde cx cy (c + 1) 0))) ∨ (r.1 = 0 ∧ OV (StP W H D lo hi lim)))) := by
  obtain ⟨⟨g1, g2, gw, gh⟩, hm1, hm, hl, hW, hH⟩ := id L.2.1
  have hroom : (if H < W then H else W) ≤ 512 := by split <;> omega
  unfold f_HFinder_lookFrom
  refine bs1_q (P := fun M3 => frL M M3 ∧ FS M3 D (SC W H D lo hi lim m (cde cx cy (c + 1) 0))) (R := fun t => t.1 = 0 ∧ frL M t.2 ∧ OV (StP W H D lo hi lim)) (lp_inv (fun n (s : Int32 × im_M) => ∃ v : Nat, v + n = 41 ∧ 1 ≤ v ∧ s.1 = nI v ∧ frL M s.2 ∧ FS s.2 D (SC W H D lo hi lim m (cde cx cy c v))) ?_ (k := 40) ⟨1, by omega, by omega, rfl, frL_refl, ?_⟩) (fun t h => ed_mk ⟨h.1, Or.inl ⟨rfl, h.2⟩⟩) (fun t h => ed_mk ⟨h.2.1, Or.inr ⟨h.1, h.2.2⟩⟩)
  · rintro n ⟨x5, M6⟩ ⟨v, hvn, hv1, e1, f, h⟩
    replace e1 : x5 = nI v := e1
    replace f : frL M M6 := f
    replace h : FS M6 D (SC W H D lo hi lim m (cde cx cy c v)) := h
    subst e1
    have L6 := LK_L f L
    have e9 : im_i M6 59 9 = nI m := L6.2.1.1.1
    have e17 : (17 : Int32) + (4 : Int32) * nI v = nI (17 + 4 * v) := by rw [nI_m, nI_n, nI_add]
    have e10 : (10 : Int32) + (4 : Int32) * nI v = nI (10 + 4 * v) := by rw [nI_m, nI_n, nI_add]
    have hms : m * (17 + 4 * v) ≤ 16 * 181 := Nat.mul_le_mul hm (by omega)
    have stop : (40 < v ∨ (if H < W then H else W) < m * (17 + 4 * v)) → FS M6 D (SC W H D lo hi lim m (cde cx cy (c + 1) 0)) := by
      intro hst
      refine FS_S (SC_gap (by unfold cde; omega) ?_) h
      intro k hk hkm h1 h2
      obtain ⟨f, X, Y, f4, ff, eX, eY, ep, _, _, _, _, hX⟩ := pc_k hk hW hlo.1
      have k64 := kv_lt (k := k)
      have hk2 := hk.2.1
      have hk3 := hk.2.2.1
      rw [ep] at h1 h2
      unfold cde at h1 h2
      rw [show (cy * 512 + cx) * 4 + (c + 1) = (cy * 512 + cx) * 4 + c + 1 from (Nat.add_assoc _ _ _).symm] at h2
      obtain ⟨_, hav⟩ := cde_g (A := (cy * 512 + cx) * 4 + c) (B := (Y * 512 + X) * 4 + f) (a := v) k64 h1 h2
      rcases hst with z | z
      · omega
      · have : m * (17 + 4 * v) ≤ ksz k := by
          unfold ksz
          rw [hkm]
          exact Nat.mul_le_mul_left m (by omega)
        split at z <;> omega
    show ed (f_HFinder_lookFrom_L3 (nI cx) (nI cy) (nI c) _ (nI v) M6) _
    unfold f_HFinder_lookFrom_L3
    rw [e17, e10, e9, nI_mul, nI_mul, Nat.mul_comm (17 + 4 * v) m, if_nIlt (by omega) (by omega)]
    have c40 : ((40 : Int32) < nI v) = (40 < v) := nIlt (x := 40) (by omega) (by omega)
    simp only [c40]
    by_cases c1 : 40 < v
    · rw [if_pos c1]
      exact lpo_r ⟨f, stop (Or.inl c1)⟩
    · rw [if_neg c1]
      by_cases c2 : (if H < W then H else W) < m * (17 + 4 * v)
      · rw [if_pos c2]
        exact lpo_r ⟨f, stop (Or.inr c2)⟩
      · rw [if_neg c2, gd_pos (by rw [inb_nI (by omega)]; omega), gd_pos (by rw [inb_nI (by omega)]; omega)]
        apply bd2_mk
        refine ed_mono (s_lookC L6 hlo ⟨hv1, by omega⟩ hc hcx hcy hg h) ?_
        rintro ⟨x15, M15⟩ ⟨f2, h2⟩
        have f3 : frL M M15 := fr_tr f2 f
        rcases h2 with ⟨e, h2⟩ | ⟨e, h2⟩
        · replace e : x15 = 1 := e
          subst e
          show ed (if ¬ (1 : Int32) = 0 then _ else _) _
          rw [if_pos (by decide)]
          exact lpo_l (n - 1) (by omega) ⟨v + 1, by omega, by omega, nI_add v 1, f3, h2⟩
        · replace e : x15 = 0 := e
          subst e
          show ed (if ¬ (0 : Int32) = 0 then _ else _) _
          rw [if_neg (fun z => z rfl)]
          exact lpo_r ⟨rfl, f3, h2⟩
  · refine FS_S (SC_gap (by unfold cde; omega) ?_) hF
    intro k hk hkm h1 h2
    obtain ⟨f, X, Y, f4, ff, eX, eY, ep, _, _, _, _, hX⟩ := pc_k hk hW hlo.1
    have k64 := kv_lt (k := k)
    have hk2 := hk.2.1
    rw [ep] at h1 h2
    unfold cde at h1 h2
    have := cde_h (A := (cy * 512 + cx) * 4 + c) (B := (Y * 512 + X) * 4 + f) k64 h1 h2
    omega
