/-! ELLIPSES DRAWN -/
def elU (X : Int) (a x : Nat) : Int := 2 * ((x : Int) - X) - ((a : Int) - 1)
def elB (X Y : Int) (a b t : Nat) (x y : Nat) : Bool := inO (elU X a x) (elU Y b y) a b && !(decide (2 * t < a ∧ 2 * t < b) && inO (elU X a x) (elU Y b y) ((a : Int) - 2 * t) ((b : Int) - 2 * t))
theorem elB_out {X Y : Int} {a b t x y : Nat} (ha : 1 ≤ a) (hb : 1 ≤ b) (h : elB X Y a b t x y = true) : X ≤ (x : Int) ∧ (x : Int) < X + a ∧ Y ≤ (y : Int) ∧ (y : Int) < Y + b := by
  unfold elB at h
  rw [Bool.and_eq_true] at h
  have h := h.1
  have hx : (elU X a x).natAbs ≤ (a : Int).natAbs := by
    by_cases c : (a : Int).natAbs < (elU X a x).natAbs
    · rw [inO_u c (by omega)] at h
      exact absurd h (by decide)
    · omega
  have hy : (elU Y b y).natAbs ≤ (b : Int).natAbs := by
    by_cases c : (b : Int).natAbs < (elU Y b y).natAbs
    · rw [inO_v c (by omega)] at h
      exact absurd h (by decide)
    · omega
  unfold elU at hx hy
  omega
/-- a row of the ellipse -/
theorem elB_row {X Y : Int} {a b t k1 k2 r x y : Nat} (h1 : ∀ i : Int, 0 ≤ i → i < (a : Int) → inO (2 * i - ((a : Int) - 1)) (2 * (r : Int) - ((b : Int) - 1)) a b = decide ((k1 : Int) ≤ i ∧ i ≤ (a : Int) - 1 - k1)) (h2 : ∀ i : Int, 0 ≤ i → i < (a : Int) → (decide (2 * t < a ∧ 2 * t < b) && inO (2 * i - ((a : Int) - 1)) (2 * (r : Int) - ((b : Int) - 1)) ((a : Int) - 2 * t) ((b : Int) - 2 * t)) = decide ((k2 : Int) ≤ i ∧ i ≤ (a : Int) - 1 - k2)) (hy : (y : Int) = Y + r) (ha : 1 ≤ a) (hb : 1 ≤ b) : elB X Y a b t x y = decide (X + k1 ≤ (x : Int) ∧ (x : Int) ≤ X + a - 1 - k1 ∧ ¬ (X + k2 ≤ (x : Int) ∧ (x : Int) ≤ X + a - 1 - k2)) := by
  by_cases c : X ≤ (x : Int) ∧ (x : Int) < X + a
  · have g1 := h1 ((x : Int) - X) (by omega) (by omega)
    have g2 := h2 ((x : Int) - X) (by omega) (by omega)
    have ev : elU Y b y = 2 * (r : Int) - ((b : Int) - 1) := by unfold elU; omega
    unfold elB
    rw [ev]
    unfold elU
    rw [g1, g2, ← decide_not, ← Bool.decide_and]
    exact decide_eq_decide.mpr (by omega)
  · rw [decide_eq_false (by omega)]
    cases hz : elB X Y a b t x y with
    | false => rfl
    | true => exact absurd (elB_out ha hb hz) (by omega)
theorem s_drawEllipse {w : Bool} {M : im_M} {W H q a b t : Nat} {D : Nat → Nat → Bool} {wy : Int32} {X Y : Int} (h : CDS w M M W H D (fun _ _ => false) wy) (hp : PN M X Y q) (ha : 1 ≤ a ∧ a ≤ 2048) (hb : 1 ≤ b ∧ b ≤ 2048) (ht : 1 ≤ t ∧ t ≤ 200) : ed (f_HPen_drawEllipse w (nI a) (nI b) (nI t) M) (fun R => CDS w M R W H D (elB X Y a b t) wy) := by
  have n1 : (1 : Int32) = iZ 1 := rfl
  have n2 : (2 : Int32) * nI t = nI (2 * t) := nI_m 2
  obtain ⟨p5, p6, _, _, X1, X2, Y1, Y2⟩ := hp
  have pk : ∀ {R : im_M} {P : Nat → Nat → Bool}, CDS w M R W H D P wy → im_i R 56 5 = iZ X ∧ im_i R 56 6 = iZ Y := fun hR => ⟨(hR.2.2.2.1 56 5 (by decide) (by decide)).trans p5, (hR.2.2.2.1 56 6 (by decide) (by decide)).trans p6⟩
  unfold f_HPen_drawEllipse
  rw [n2, if_nIl (by omega) (by omega), if_nIl (by omega) (by omega)]
  apply bd1_mk
  refine ed_mono (lp_inv (fun k (s : Int32 × im_M) => ∃ r : Nat, r + k = b ∧ s.1 = nI r ∧ CDS w M s.2 W H D (fun x y => elB X Y a b t x y && decide ((y : Int) < Y + r)) wy) (Q := fun R => CDS w M R W H D (elB X Y a b t) wy) ?_ (k := b) ⟨0, by omega, rfl, CDS_c h (fun x y _ _ => ?_)⟩) (fun R h => ed_mk h)
  · rintro k ⟨x7, M8⟩ ⟨r, hr, e1, hC⟩
    replace e1 : x7 = nI r := e1
    replace hC : CDS w M M8 W H D (fun x y => elB X Y a b t x y && decide ((y : Int) < Y + r)) wy := hC
    subst e1
    show ed (f_HPen_drawEllipse_L24 w (nI a) (nI b) (nI t) (if a ≤ 2 * t then 0 else (if b ≤ 2 * t then 0 else 1)) (nI r) M8) _
    unfold f_HPen_drawEllipse_L24
    rw [if_nIl (by omega) (by omega)]
    by_cases c1 : b ≤ r
    · rw [if_pos c1]
      obtain rfl : r = b := by omega
      refine lpo_r (CDS_c hC (fun x y _ _ => ?_))
      cases hz : elB X Y a r t x y with
      | false => rfl
      | true => rw [Bool.true_and, decide_eq_true (elB_out ha.1 hb.1 hz).2.2.2]
    · have ey : iZ Y + nI r = iZ (Y + r) := by rw [iZ_nI, iZ_add]
      have eH : im_i M8 28 1 = iZ (H : Int) := by rw [hC.1.2.1.2, iZ_nI]
      have hH := hC.1.1
      rw [if_neg c1, (pk hC).1, (pk hC).2, ey, eH]
      have l1 : (iZ (Y + r) < 0) = (Y + r < 0) := iZ_lt (b := 0) (by omega) (by omega)
      have l2 : (iZ (H : Int) ≤ iZ (Y + r)) = ((H : Int) ≤ Y + r) := iZ_le (by omega) (by omega)
      simp only [l1, l2]
      -- a row that lies not on the sheet
      have skip : (Y + r < 0 ∨ (H : Int) ≤ Y + r) → ed (bd1 (some M8) fun (M36 : im_M) => some (Sum.inl ((nI r + 1), M36))) (lpo (fun k (s : Int32 × im_M) => ∃ r : Nat, r + k = b ∧ s.1 = nI r ∧ CDS w M s.2 W H D (fun x y => elB X Y a b t x y && decide ((y : Int) < Y + r)) wy) (fun R => CDS w M R W H D (elB X Y a b t) wy) k) := fun z => by
        rw [bd1_s]
        refine lpo_l (k - 1) (by omega) ⟨r + 1, by omega, nI_add r 1, CDS_c hC (fun x y _ hy => ?_)⟩
        show (elB X Y a b t x y && decide ((y : Int) < Y + r)) = (elB X Y a b t x y && decide ((y : Int) < Y + (r + 1 : Nat)))
        congr 1
        exact decide_eq_decide.mpr (by omega)
      by_cases c2 : Y + r < 0
      · rw [if_pos c2]
        exact skip (Or.inl c2)
      · rw [if_neg c2]
        by_cases c3 : (H : Int) ≤ Y + r
        · rw [if_pos c3]
          exact skip (Or.inr c3)
        · have ev : ((2 : Int64) * Int32.toInt64 (nI r)) - Int32.toInt64 (nI b - 1) = lZ (2 * (r : Int) - ((b : Int) - 1)) := by
            rw [lZ_w (by omega), nI_m1 (by omega), lZ_w (by omega), show (2 : Int64) = lZ 2 from rfl, lZ_mul, lZ_sub]
            congr 1; omega
          obtain ⟨k1, k1b, f1, s1⟩ := s_indent (M := M8) (w := a) (a := a) (b := b) (v := 2 * (r : Int) - ((b : Int) - 1)) ha ha hb (by omega)
          have inn : ∃ k2 : Nat, k2 ≤ (a + 1) / 2 ∧ (if (if a ≤ 2 * t then (0 : Int32) else (if b ≤ 2 * t then 0 else 1)) = 0 then some (-1) else bd1 (f_HPen_indent (nI a) (nI a - nI (2 * t)) (nI b - nI (2 * t)) (lZ (2 * (r : Int) - ((b : Int) - 1))) M8) fun (x12 : Int32) => some x12) = some (if k2 = (a + 1) / 2 then (-1 : Int32) else nI k2) ∧ ∀ i : Int, 0 ≤ i → i < (a : Int) → (decide (2 * t < a ∧ 2 * t < b) && inO (2 * i - ((a : Int) - 1)) (2 * (r : Int) - ((b : Int) - 1)) ((a : Int) - 2 * t) ((b : Int) - 2 * t)) = decide ((k2 : Int) ≤ i ∧ i ≤ (a : Int) - 1 - k2) := by
            by_cases d : 2 * t < a ∧ 2 * t < b
            · obtain ⟨k2, k2b, f2, s2⟩ := s_indent (M := M8) (w := a) (a := a - 2 * t) (b := b - 2 * t) (v := 2 * (r : Int) - ((b : Int) - 1)) ha (by omega) (by omega) (by omega)
              refine ⟨k2, k2b, ?_, fun i i1 i2 => ?_⟩
              · rw [if_neg (show ¬ a ≤ 2 * t by omega), if_neg (show ¬ b ≤ 2 * t by omega), if_neg (by decide), nI_sb (by omega), nI_sb (by omega), f2, bd1_s]
              · rw [decide_eq_true d, Bool.true_and, ← s2 i i1 i2, show (a : Int) - 2 * t = ((a - 2 * t : Nat) : Int) by omega, show (b : Int) - 2 * t = ((b - 2 * t : Nat) : Int) by omega]
            · refine ⟨(a + 1) / 2, Nat.le_refl _, ?_, fun i i1 i2 => ?_⟩
              · rw [if_pos rfl, if_pos]
                by_cases d1 : a ≤ 2 * t
                · rw [if_pos d1]
                · rw [if_neg d1, if_pos (by omega)]
              · rw [decide_eq_false d, Bool.false_and, decide_eq_false (by omega)]
          obtain ⟨k2, k2b, f2, s2⟩ := inn
          have row : ∀ x y : Nat, (y : Int) = Y + r → elB X Y a b t x y = decide (X + k1 ≤ (x : Int) ∧ (x : Int) ≤ X + a - 1 - k1 ∧ ¬ (X + k2 ≤ (x : Int) ∧ (x : Int) ≤ X + a - 1 - k2)) := fun x y hy => elB_row s1 s2 hy ha.1 hb.1
          have done : ∀ (R : im_M) (P : Nat → Nat → Bool), CDS w M R W H D P wy → (∀ x y : Nat, x < W → y < H → P x y = (elB X Y a b t x y && decide ((y : Int) < Y + r) || decide ((y : Int) = Y + r ∧ (X + k1 ≤ (x : Int) ∧ (x : Int) ≤ X + a - 1 - k1 ∧ ¬ (X + k2 ≤ (x : Int) ∧ (x : Int) ≤ X + a - 1 - k2))))) → ed (some (Sum.inl ((nI r + 1), R))) (lpo (fun k (s : Int32 × im_M) => ∃ r : Nat, r + k = b ∧ s.1 = nI r ∧ CDS w M s.2 W H D (fun x y => elB X Y a b t x y && decide ((y : Int) < Y + r)) wy) (fun R => CDS w M R W H D (elB X Y a b t) wy) k) := fun R P hR hP => by
            refine lpo_l (k - 1) (by omega) ⟨r + 1, by omega, nI_add r 1, CDS_c hR (fun x y hx hy => ?_)⟩
            rw [hP x y hx hy]
            by_cases z : (y : Int) = Y + r
            · rw [row x y z, decide_eq_false (p := (y : Int) < Y + r) (by omega), decide_eq_true (p := (y : Int) < Y + (r + 1 : Nat)) (by omega), Bool.and_false, Bool.false_or, Bool.and_true]
              exact decide_eq_decide.mpr (by omega)
            · rw [decide_eq_false (p := (y : Int) = Y + r ∧ _) (fun u => z u.1), Bool.or_false]
              congr 1
              exact decide_eq_decide.mpr (by omega)
          have ea : ∀ k : Nat, (iZ X + nI a) - 1 - nI k = iZ (X + a - 1 - k) := fun k => by rw [iZ_nI, iZ_nI, n1, iZ_add, iZ_sub, iZ_sub]
          have eb : ∀ k : Nat, iZ X + nI k = iZ (X + k) := fun k => by rw [iZ_nI, iZ_add]
          have ec : ∀ k : Nat, (iZ X + nI k) - 1 = iZ (X + k - 1) := fun k => by rw [iZ_nI, n1, iZ_add, iZ_sub]
          have ed' : ∀ k : Nat, (iZ X + nI a) - nI k = iZ (X + a - k) := fun k => by rw [iZ_nI, iZ_nI, iZ_add, iZ_sub]
          rw [if_neg c3, ev, f1, bd1_s, n2, f2, bd1_s]
          simp only [jn1]
          have nm : ∀ k : Nat, k ≤ (a + 1) / 2 → ¬ k = (a + 1) / 2 → ¬ nI k = -1 := fun k h1 h2 => nI_nm1 (by omega)
          by_cases d2 : k2 = (a + 1) / 2
          · rw [if_pos d2, if_neg (fun z => z rfl)]
            by_cases d1 : k1 = (a + 1) / 2
            · rw [if_pos d1, if_pos rfl, if_pos rfl, bd1_s]
              refine done M8 _ hC (fun x y hx hy => ?_)
              rw [decide_eq_false (p := (y : Int) = Y + r ∧ _) (by omega), Bool.or_false]
            · rw [if_neg d1, if_neg (nm k1 k1b d1), ea, eb]
              apply bd1_mk
              apply bd1_mk
              refine ed_mono (s_box hC (by omega) (by omega) (by omega) (by omega) (fun x y hx hy hz => ?_)) (fun R hR => ed_mk (done R _ hR (fun x y hx hy => ?_)))
              · unfold bxB at hz
                have hz := of_decide_eq_true hz
                show (_ && decide _) = false
                rw [decide_eq_false (by omega), Bool.and_false]
              · congr 1
                unfold bxB
                exact decide_eq_decide.mpr (by omega)
          · rw [if_neg d2, if_pos (nm k2 k2b d2)]
            by_cases d1 : k1 = (a + 1) / 2
            · rw [if_pos d1, if_pos rfl, bd1_s]
              refine done M8 _ hC (fun x y hx hy => ?_)
              rw [decide_eq_false (p := (y : Int) = Y + r ∧ _) (by omega), Bool.or_false]
            · rw [if_neg d1, if_neg (nm k1 k1b d1), (pk hC).1, eb, ec]
              apply bd1_mk
              apply bd1_mk
              refine ed_mono (s_box hC (by omega) (by omega) (by omega) (by omega) (fun x y hx hy hz => ?_)) (fun R hR => ?_)
              · unfold bxB at hz
                have hz := of_decide_eq_true hz
                show (_ && decide _) = false
                rw [decide_eq_false (by omega), Bool.and_false]
              · rw [(pk hR).1, ed', ea]
                apply bd1_mk
                refine ed_mono (s_box hR (by omega) (by omega) (by omega) (by omega) (fun x y hx hy hz => ?_)) (fun R2 hR2 => ed_mk (done R2 _ hR2 (fun x y hx hy => ?_)))
                · unfold bxB at hz ⊢
                  have hz := of_decide_eq_true hz
                  show (_ && decide _ || decide _) = false
                  rw [decide_eq_false (p := (y : Int) < Y + r) (by omega), Bool.and_false, Bool.false_or]
                  exact decide_eq_false (by omega)
                · show ((_ && _) || _ || _) = _
                  rw [Bool.or_assoc]
                  congr 1
                  unfold bxB
                  rw [← Bool.decide_or]
                  exact decide_eq_decide.mpr (by omega)
  · cases hz : elB X Y a b t x y with
    | false => rfl
    | true =>
      have := elB_out ha.1 hb.1 hz
      rw [Bool.true_and, decide_eq_false (by omega)]
theorem s_inOval {M : im_M} {u v a b : Int} (hu : u.natAbs ≤ 12000) (hv : v.natAbs ≤ 12000) (ha : a.natAbs ≤ 2048) (hb : b.natAbs ≤ 2048) : f_MDotRows_inOval (lZ u) (lZ v) (lZ a) (lZ b) M = some (if inO u v a b = true then 1 else 0) := by
  unfold f_MDotRows_inOval
  rw [lZ_mul, lZ_mul, lZ_mul, lZ_mul, lZ_mul, lZ_add, lZ_mul]
  simp only [ov_cmp hu hv ha hb]
  cases inO u v a b <;> rfl
theorem bl_ellipse {M : im_M} {X Y : Int} {a b t x y : Nat} (h : FAT M X Y (a : Int) (b : Int) (t : Int)) (hX : -4096 ≤ X ∧ X ≤ 4096) (hY : -4096 ≤ Y ∧ Y ≤ 4096) (ha : 1 ≤ a ∧ a ≤ 2048) (hb : 1 ≤ b ∧ b ≤ 2048) (ht : 1 ≤ t ∧ t ≤ 200) (hx : x < 512) (hy : y < 512) : f_MDotRows_belongs 2 (nI x) (nI y) M = some (if elB X Y a b t x y = true then 1 else 0) := by
  obtain ⟨e1, e2, e3, e4, e5⟩ := h
  have n1 : (1 : Int32) = iZ 1 := rfl
  have n2 : (2 : Int64) = lZ 2 := rfl
  have z0 : (0 : Int64) = lZ 0 := rfl
  have eu : ((2 : Int64) * Int32.toInt64 (iZ x - iZ X)) - Int32.toInt64 (iZ (a : Int) - 1) = lZ (elU X a x) := by
    rw [n1, iZ_sub, iZ_sub, iZ_l (by omega), iZ_l (by omega), n2, lZ_mul, lZ_sub]; rfl
  have ev : ((2 : Int64) * Int32.toInt64 (iZ y - iZ Y)) - Int32.toInt64 (iZ (b : Int) - 1) = lZ (elU Y b y) := by
    rw [n1, iZ_sub, iZ_sub, iZ_l (by omega), iZ_l (by omega), n2, lZ_mul, lZ_sub]; rfl
  have bu : (elU X a x).natAbs ≤ 12000 := by unfold elU; omega
  have bv : (elU Y b y).natAbs ≤ 12000 := by unfold elU; omega
  have ea : Int32.toInt64 (iZ (a : Int)) = lZ a := iZ_l (by omega)
  have eb : Int32.toInt64 (iZ (b : Int)) = lZ b := iZ_l (by omega)
  have et : (2 : Int64) * Int32.toInt64 (iZ (t : Int)) = lZ (2 * t) := by rw [iZ_l (by omega), n2, lZ_mul]
  have l1 : (lg_cmp (lZ ((a : Int) - 2 * t)) 0 ≤ 0) = (¬ 0 < (a : Int) - 2 * t) := by rw [lc_le, z0, lZ_lt (by omega) (by omega)]
  have l2 : (lg_cmp (lZ ((b : Int) - 2 * t)) 0 ≤ 0) = (¬ 0 < (b : Int) - 2 * t) := by rw [lc_le, z0, lZ_lt (by omega) (by omega)]
  unfold f_MDotRows_belongs f_MDotRows_inEllipse
  rw [if_pos (by decide), if_pos (by decide), if_neg (fun z => z rfl), e1, e2, e3, e4, e5, iZ_nI (n := x), iZ_nI (n := y), eu, ev, ea, eb, et, lZ_sub, lZ_sub, s_inOval bu bv (by omega) (by omega), bd1_s]
  simp only [jn0, l1, l2]
  unfold elB
  cases inO (elU X a x) (elU Y b y) a b with
  | false => rfl
  | true =>
    rw [if_pos rfl, if_neg (by decide), Bool.true_and]
    by_cases c : 2 * t < a ∧ 2 * t < b
    · rw [if_neg (by omega), if_neg (by omega), s_inOval bu bv (by omega) (by omega), bd1_s, decide_eq_true c, Bool.true_and]
      cases inO (elU X a x) (elU Y b y) ((a : Int) - 2 * t) ((b : Int) - 2 * t) <;> rfl
    · rw [decide_eq_false c, Bool.false_and]
      by_cases d : 2 * t < a
      · rw [if_neg (by omega), if_pos (by omega)]; rfl
      · rw [if_pos (by omega)]; rfl
theorem s_ellipseM {M : im_M} {W H a b t : Nat} {D : Nat → Nat → Bool} {wy : Int32} {X Y : Int} (q : DR M W H D) (hwy : im_i M 89 3 = wy) (hw2 : wy = 0 ∨ wy = 2) (hX : -4096 ≤ X ∧ X ≤ 4096) (hY : -4096 ≤ Y ∧ Y ≤ 4096) (ha : 1 ≤ a ∧ a ≤ 2048) (hb : 1 ≤ b ∧ b ≤ 2048) (ht : 1 ≤ t ∧ t ≤ 200) : ed (f_MDotRows_ellipse (iZ X) (iZ Y) (nI a) (nI b) (nI t) M) (DRW M W H D (elB X Y a b t) wy) := by
  rw [iZ_nI (n := a), iZ_nI (n := b), iZ_nI (n := t)]
  unfold f_MDotRows_ellipse f_MDotRows_noRing f_MDotRows_at
  have r1 : f_MDotRows_isNot (iZ (a : Int)) 1 2048 M = some 0 := isnZ (a := 1) (b := 2048) (by omega) (by omega) (by omega)
  have r2 : f_MDotRows_isNot (iZ (b : Int)) 1 2048 M = some 0 := isnZ (a := 1) (b := 2048) (by omega) (by omega) (by omega)
  have r3 : f_MDotRows_isNot (iZ (t : Int)) 1 200 M = some 0 := isnZ (a := 1) (b := 200) (by omega) (by omega) (by omega)
  simp only [jn0]
  rw [noPlZ hX hY, bd1_s, if_neg (fun z => z rfl), r1, bd1_s, if_neg (fun z => z rfl), r2, bd1_s, if_neg (fun z => z rfl), r3, bd1_s, if_pos rfl, bd1_s, if_pos rfl, bd1_s]
  rw [if_pos (show im_i (im_setI M 89 0 0) 89 0 ≤ 0 by show (0 : Int32) ≤ 0; decide), bd1_s]
  generalize hN : im_setI (im_setI (im_setI (im_setI (im_setI (im_setI M 89 0 0) 89 10 (iZ X)) 89 11 (iZ Y)) 89 12 (iZ (a : Int))) 89 13 (iZ (b : Int))) 89 14 (iZ (t : Int)) = N
  have fN : fr 0 [(89, 0), (89, 10), (89, 11), (89, 12), (89, 13), (89, 14)] M N := by
    rw [← hN]
    exact fr_F (by decide) (fr_F (by decide) (fr_F (by decide) (fr_F (by decide) (fr_F (by decide) (fr_F (by decide) fr_refl)))))
  have fat : FAT N X Y a b t := by rw [← hN]; exact ⟨rfl, rfl, rfl, rfl, rfl⟩
  have qN : DR N W H D := DR_fr fN (by decide +kernel) q
  apply bd2_mk
  refine ed_mono (s_draw (B := elB X Y a b t) (fig := 2) qN ((fN.1 89 3 (by decide) (by decide)).trans hwy) hw2 (fun M' f' x y hx hy => ?_)) ?_
  · have := qN.1
    refine bl_ellipse ⟨?_, ?_, ?_, ?_, ?_⟩ hX hY ha hb ht (by omega) (by omega)
    · rw [f'.1 89 10 (by decide) (by decide)]; exact fat.1
    · rw [f'.1 89 11 (by decide) (by decide)]; exact fat.2.1
    · rw [f'.1 89 12 (by decide) (by decide)]; exact fat.2.2.1
    · rw [f'.1 89 13 (by decide) (by decide)]; exact fat.2.2.2.1
    · rw [f'.1 89 14 (by decide) (by decide)]; exact fat.2.2.2.2
  · rintro ⟨x19, M19⟩ ⟨h1, h2, h3⟩
    exact ed_mk ⟨h1, h2, fr_tr (fr_mono (by decide) (by decide) h3) (fr_mono (by decide) (by decide) fN)⟩
