/-! THE REFERENCE DRAWS -/
/-- dots of the first n of row y with B -/
def rowB (B : Nat → Nat → Bool) (y : Nat) : Nat → Nat
  | 0 => 0
  | n + 1 => rowB B y n + (if B n y = true then 1 else 0)
/-- dots of the first n rows, W wide, with B -/
def allB (B : Nat → Nat → Bool) (W : Nat) : Nat → Nat
  | 0 => 0
  | n + 1 => allB B W n + rowB B n W
theorem rowB_le {B : Nat → Nat → Bool} {y : Nat} : ∀ n, rowB B y n ≤ n := by
  intro n
  induction n with
  | zero => exact Nat.le_refl 0
  | succ n ih =>
    show rowB B y n + (if B n y = true then 1 else 0) ≤ n + 1
    split <;> omega
theorem allB_le {B : Nat → Nat → Bool} {W : Nat} (hW : W ≤ 512) : ∀ n, allB B W n ≤ 512 * n := by
  intro n
  induction n with
  | zero => exact Nat.le_refl 0
  | succ n ih =>
    have := rowB_le (B := B) (y := n) W
    show allB B W n + rowB B n W ≤ 512 * (n + 1)
    omega
/-- what becomes of a dot that is struck -/
def stk (wy : Int32) (d : Bool) : Bool := if wy = 2 then !d else true
/-- the dots once those before (x, y) were gone through -/
def drD (D B : Nat → Nat → Bool) (wy : Int32) (y x : Nat) (a b : Nat) : Bool := if (b < y ∨ (b = y ∧ a < x)) ∧ B a b = true then stk wy (D a b) else D a b
/-- before each dot of a row -/
def dwI (M : im_M) (W H : Nat) (D B : Nat → Nat → Bool) (wy : Int32) (y : Nat) (n : Nat) (s : Int32 × Int32 × im_M) : Prop := ∃ x : Nat, x + n = W ∧ s.2.1 = nI x ∧ s.1 = nI (allB B W y + rowB B y x) ∧ DR s.2.2 W H (fun a b => if a < W then drD D B wy y x a b else D a b) ∧ fr (2 ^ 90) [] M s.2.2
/-- before each row -/
def drI (M : im_M) (W H : Nat) (D B : Nat → Nat → Bool) (wy : Int32) (n : Nat) (s : Int32 × Int32 × im_M) : Prop := ∃ y : Nat, y + n = H ∧ s.2.1 = nI y ∧ s.1 = nI (allB B W y) ∧ DR s.2.2 W H (fun a b => if a < W then drD D B wy y 0 a b else D a b) ∧ fr (2 ^ 90) [] M s.2.2
theorem DR_eq {M : im_M} {W H : Nat} {D E : Nat → Nat → Bool} (q : DR M W H D) (h : ∀ a b, D a b = E a b) : DR M W H E := by
  have : D = E := funext fun a => funext fun b => h a b
  rw [← this]
  exact q
/-- one dot turned over -/
def flip1 (D : Nat → Nat → Bool) (x y a b : Nat) : Bool := if a = x ∧ b = y then !(D a b) else D a b
theorem s_other {M : im_M} {W H : Nat} {D : Nat → Nat → Bool} (q : DR M W H D) {x y : Nat} (hx : x < W) (hy : y < H) : ∃ M', f_MDotRows_other (nI x) (nI y) M = some M' ∧ DR M' W H (flip1 D x y) ∧ fr (2 ^ 90) [] M M' := by
  obtain ⟨hW, e, d1, d2⟩ := q
  have g : inb ((32 : Int32) * nI y + nI x / 32) 32768 := by rw [iZ_nI, iZ_nI, dk_ix (by omega) (by omega), inb_nI (by omega)]; omega
  have ec : ((32 : Int32) * nI y + nI x / 32).toNatClampNeg = 32 * y + x / 32 := by rw [iZ_nI, iZ_nI, dk_ix (by omega) (by omega), nI_clamp (by omega)]
  have es : nI x - nI x / 32 * 32 = iZ ((x % 32 : Nat) : Int) := by rw [iZ_nI, dk_sh (by omega)]
  refine ⟨im_setI M 90 (32 * y + x / 32) (im_i M 90 (32 * y + x / 32) ^^^ ((1 : Int32) <<< (iZ ((x % 32 : Nat) : Int) &&& 31 : Int32) : Int32)), ?_, ⟨hW, e, ?_, ?_⟩, fr_I (by decide) fr_refl⟩
  · unfold f_MDotRows_other
    rw [gd_pos g, gd_pos g, ec, es]
  · intro a b h
    unfold flip1 at h
    by_cases c : a = x ∧ b = y
    · omega
    · rw [if_neg c] at h
      exact d1 a b h
  · intro b j k hb hj hk
    rw [mi_I, if_pos rfl]
    unfold flip1
    by_cases c : 32 * b + j = 32 * y + x / 32
    · have hb2 : b = y := by omega
      have hj2 : j = x / 32 := by omega
      subst hb2
      rw [if_pos c, ib_xor, ib_one (by omega) hk]
      have e1 : ib (im_i M 90 (32 * b + x / 32)) k = D (32 * j + k) b := by rw [← hj2]; exact d2 b j k hb hj hk
      rw [e1]
      by_cases ck : k = x % 32
      · rw [if_pos ⟨by omega, rfl⟩]
        simp [ck]
      · rw [if_neg (by omega)]
        simp [ck]
    · rw [if_neg c, d2 b j k hb hj hk, if_neg (by omega)]
theorem s_draw {M : im_M} {W H : Nat} {D B : Nat → Nat → Bool} {fig wy : Int32} (q : DR M W H D) (hwy : im_i M 89 3 = wy) (hw2 : wy = 0 ∨ wy = 2) (hB : ∀ M', fr (2 ^ 90) [] M M' → ∀ x y, x < W → y < H → f_MDotRows_belongs fig (nI x) (nI y) M' = some (if B x y = true then 1 else 0)) : ed (f_MDotRows_draw fig M) (fun r => r.1 = nI (allB B W H) ∧ DR r.2 W H (fun a b => if a < W ∧ b < H ∧ B a b = true then stk wy (D a b) else D a b) ∧ fr (2 ^ 90) [] M r.2) := by
  have hW := q.1
  have d1 := q.2.2.1
  unfold f_MDotRows_draw
  apply bd2_mk
  have start : DR M W H (fun a b => if a < W then drD D B wy 0 0 a b else D a b) := DR_eq q (fun a b => by
    unfold drD
    split
    · rw [if_neg (by omega)]
    · rfl)
  refine ed_mono (lp_inv (drI M W H D B wy) (Q := fun (r : Int32 × im_M) => r.1 = nI (allB B W H) ∧ DR r.2 W H (fun a b => if a < W then drD D B wy H 0 a b else D a b) ∧ fr (2 ^ 90) [] M r.2) ?_ (k := H) ⟨0, by omega, rfl, rfl, start, fr_refl⟩) ?_
  · rintro n ⟨m, i, M1⟩ ⟨y, hy, e1, e2, e3, e4⟩
    replace e1 : i = nI y := e1
    replace e2 : m = nI (allB B W y) := e2
    replace e3 : DR M1 W H (fun a b => if a < W then drD D B wy y 0 a b else D a b) := e3
    replace e4 : fr (2 ^ 90) [] M M1 := e4
    subst e1 e2
    show ed (f_MDotRows_draw_L4 fig (nI (allB B W y)) (nI y) M1) _
    unfold f_MDotRows_draw_L4
    rw [e3.2.1.2]
    by_cases h : H ≤ y
    · have hyH : y = H := by omega
      subst hyH
      rw [if_pos (nI_le (Nat.le_refl y) (by omega))]
      exact lpo_r ⟨rfl, e3, e4⟩
    · have hy2 : y < H := by omega
      rw [if_neg (nI_ge hy2 (by omega))]
      apply bd2_mk
      have hall := allB_le (B := B) hW.2.1 y
      refine ed_mono (lp_inv (dwI M W H D B wy y) (Q := fun (r : Int32 × im_M) => r.1 = nI (allB B W y + rowB B y W) ∧ DR r.2 W H (fun a b => if a < W then drD D B wy y W a b else D a b) ∧ fr (2 ^ 90) [] M r.2) ?_ (k := W) ⟨0, by omega, rfl, rfl, e3, e4⟩) ?_
      · rintro n2 ⟨m2, i2, M2⟩ ⟨x, hx, g1, g2, g3, g4⟩
        replace g1 : i2 = nI x := g1
        replace g2 : m2 = nI (allB B W y + rowB B y x) := g2
        replace g3 : DR M2 W H (fun a b => if a < W then drD D B wy y x a b else D a b) := g3
        replace g4 : fr (2 ^ 90) [] M M2 := g4
        subst g1 g2
        show ed (f_MDotRows_draw_L15 fig (nI y) (nI (allB B W y + rowB B y x)) (nI x) M2) _
        unfold f_MDotRows_draw_L15
        rw [g3.2.1.1]
        by_cases hxx : W ≤ x
        · have hxW : x = W := by omega
          subst hxW
          rw [if_pos (nI_le (Nat.le_refl x) (by omega))]
          exact lpo_r ⟨rfl, g3, g4⟩
        · have hx2 : x < W := by omega
          rw [if_neg (nI_ge hx2 (by omega)), hB M2 g4 x y hx2 hy2, bd1_s]
          have hrow := rowB_le (B := B) (y := y) x
          have hwy2 : im_i M2 89 3 = wy := by rw [g4.1 89 3 rfl (by decide), hwy]
          -- the next dot
          have nx : ∀ (N : im_M), DR N W H (fun a b => if a < W then drD D B wy y (x + 1) a b else D a b) → fr (2 ^ 90) [] M N → ed (some (Sum.inl (nI (allB B W y + rowB B y x + (if B x y = true then 1 else 0)), nI x + 1, N))) (lpo (dwI M W H D B wy y) (fun (r : Int32 × im_M) => r.1 = nI (allB B W y + rowB B y W) ∧ DR r.2 W H (fun a b => if a < W then drD D B wy y W a b else D a b) ∧ fr (2 ^ 90) [] M r.2) n2) := by
            intro N h1 h2
            refine lpo_l (W - (x + 1)) (by omega) ⟨x + 1, by omega, nI_1 x, ?_, h1, h2⟩
            show nI (allB B W y + rowB B y x + (if B x y = true then 1 else 0)) = nI (allB B W y + (rowB B y x + (if B x y = true then 1 else 0)))
            rw [Nat.add_assoc]
          by_cases hb : B x y = true
          · rw [if_pos hb] at nx ⊢
            rw [if_neg (by decide)]
            simp only [jn0]
            -- the dot itself, before
            have dxy : (fun a b => if a < W then drD D B wy y x a b else D a b) x y = D x y := by
              show (if x < W then drD D B wy y x x y else D x y) = D x y
              rw [if_pos hx2]
              unfold drD
              rw [if_neg (by omega)]
            obtain ⟨N, eN, dN, fN⟩ := s_other g3 hx2 hy2
            rcases hw2 with h0 | h2
            · subst h0
              rw [hwy2, if_neg (by decide)]
              have ek : f_MDotRows_isDark (nI x) (nI y) M2 = some (if D x y = true then 1 else 0) := by
                rw [iZ_nI, iZ_nI, e_isDark g3 (by omega) (by omega), Dz_nn]
                have dxy2 : (if x < W then drD D B 0 y x x y else D x y) = D x y := dxy
                rw [dxy2]
              have z1 : ((if ¬ (0 : Int32) = 1 then 0 else 1) : Int32) = 0 := by decide
              rw [ek, bd1_s, z1]
              by_cases hd : D x y = true
              · rw [if_pos hd, if_pos (by decide), nI_1]
                apply bd2_mk
                refine ed_mk (nx M2 (DR_eq g3 ?_) g4)
                intro a b
                by_cases ha : a < W
                · rw [if_pos ha, if_pos ha]
                  unfold drD
                  by_cases c : a = x ∧ b = y
                  · obtain ⟨rfl, rfl⟩ := c
                    rw [if_neg (by omega), if_pos ⟨by omega, hb⟩, hd]
                    rfl
                  · by_cases c2 : (b < y ∨ (b = y ∧ a < x)) ∧ B a b = true
                    · rw [if_pos c2, if_pos ⟨by omega, c2.2⟩]
                    · rw [if_neg c2, if_neg (fun z => c2 ⟨by omega, z.2⟩)]
                · rw [if_neg ha, if_neg ha]
              · rw [if_neg hd, if_neg (by decide), eN, bd1_s, nI_1]
                apply bd2_mk
                refine ed_mk (nx N (DR_eq dN ?_) (fr_tr fN g4))
                intro a b
                unfold flip1
                dsimp only
                by_cases ha : a < W
                · rw [if_pos ha, if_pos ha]
                  unfold drD
                  by_cases c : a = x ∧ b = y
                  · obtain ⟨rfl, rfl⟩ := c
                    rw [if_pos ⟨rfl, rfl⟩, if_neg (by omega), if_pos ⟨by omega, hb⟩]
                    simp at hd
                    rw [hd]
                    rfl
                  · rw [if_neg c]
                    by_cases c2 : (b < y ∨ (b = y ∧ a < x)) ∧ B a b = true
                    · rw [if_pos c2, if_pos ⟨by omega, c2.2⟩]
                    · rw [if_neg c2, if_neg (fun z => c2 ⟨by omega, z.2⟩)]
                · rw [if_neg ha, if_neg ha, if_neg (by omega)]
            · subst h2
              rw [hwy2, if_pos rfl, eN, bd1_s, nI_1]
              apply bd2_mk
              refine ed_mk (nx N (DR_eq dN ?_) (fr_tr fN g4))
              intro a b
              unfold flip1
              dsimp only
              by_cases ha : a < W
              · rw [if_pos ha, if_pos ha]
                unfold drD
                by_cases c : a = x ∧ b = y
                · obtain ⟨rfl, rfl⟩ := c
                  rw [if_pos ⟨rfl, rfl⟩, if_neg (by omega), if_pos ⟨by omega, hb⟩]
                  rfl
                · rw [if_neg c]
                  by_cases c2 : (b < y ∨ (b = y ∧ a < x)) ∧ B a b = true
                  · rw [if_pos c2, if_pos ⟨by omega, c2.2⟩]
                  · rw [if_neg c2, if_neg (fun z => c2 ⟨by omega, z.2⟩)]
              · rw [if_neg ha, if_neg ha, if_neg (by omega)]
          · rw [if_neg hb] at nx ⊢
            rw [if_pos rfl]
            apply bd2_mk
            refine ed_mk (nx M2 (DR_eq g3 ?_) g4)
            intro a b
            by_cases ha : a < W
            · rw [if_pos ha, if_pos ha]
              unfold drD
              by_cases c : a = x ∧ b = y
              · obtain ⟨rfl, rfl⟩ := c
                rw [if_neg (by omega), if_neg (fun z => hb z.2)]
              · by_cases c2 : (b < y ∨ (b = y ∧ a < x)) ∧ B a b = true
                · rw [if_pos c2, if_pos ⟨by omega, c2.2⟩]
                · rw [if_neg c2, if_neg (fun z => c2 ⟨by omega, z.2⟩)]
            · rw [if_neg ha, if_neg ha]
      · rintro ⟨m3, M3⟩ ⟨h1, h2, h3⟩
        replace h1 : m3 = nI (allB B W y + rowB B y W) := h1
        replace h2 : DR M3 W H (fun a b => if a < W then drD D B wy y W a b else D a b) := h2
        subst h1
        refine lpo_l (H - (y + 1)) (by omega) ⟨y + 1, by omega, nI_1 y, rfl, DR_eq h2 ?_, h3⟩
        intro a b
        by_cases ha : a < W
        · rw [if_pos ha, if_pos ha]
          unfold drD
          by_cases c2 : (b < y ∨ (b = y ∧ a < W)) ∧ B a b = true
          · rw [if_pos c2, if_pos ⟨by omega, c2.2⟩]
          · rw [if_neg c2, if_neg (fun z => c2 ⟨by omega, z.2⟩)]
        · rw [if_neg ha, if_neg ha]
  · rintro ⟨m3, M3⟩ ⟨h1, h2, h3⟩
    refine ed_mk ⟨h1, DR_eq h2 ?_, h3⟩
    intro a b
    by_cases ha : a < W
    · rw [if_pos ha]
      unfold drD
      by_cases c2 : (b < H ∨ (b = H ∧ a < 0)) ∧ B a b = true
      · rw [if_pos c2, if_pos ⟨ha, by omega, c2.2⟩]
      · rw [if_neg c2, if_neg (fun z => c2 ⟨by omega, z.2.2⟩)]
    · rw [if_neg ha, if_neg (fun z => ha z.1)]
