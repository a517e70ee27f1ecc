/-! WHICH PLACES LEAD -/
def mt (k l : Nat) : Prop := kx k < kx l + ksz l ∧ kx l < kx k + ksz k ∧ ky k < ky l + ksz l ∧ ky l < ky k + ksz k
def bt (D : Nat → Nat → Bool) (l k : Nat) : Prop := eW D l < eW D k ∨ (eW D l = eW D k ∧ l < k)
def ld (D : Nat → Nat → Bool) (S : Nat → Prop) (k : Nat) : Prop := S k ∧ ∀ l, S l → ¬ (bt D l k ∧ mt k l)
theorem eW_nn {D : Nat → Nat → Bool} {k : Nat} (h : 1 ≤ kv k) : 0 ≤ eW D k := by
  unfold eW
  rw [EE_parts h kq_lt]
  have ho := oth_nn (D := D) (m := km k) (v := kv k) (x := kx k) (y := ky k) (q := kq k)
  have r : ∀ i, 0 ≤ eC D (km k) (kv k) (kx k) (ky k) i := fun i => eC_nn
  have g : ∀ (P : Prop) [Decidable P] (z : Int), 0 ≤ z → 0 ≤ (if P then 0 else z) := fun P _ z hz => by split <;> omega
  have := g (0 + kq k = 3) _ (r 0)
  have := g (1 + kq k = 3) _ (r 1)
  have := g (2 + kq k = 3) _ (r 2)
  have := g (3 + kq k = 3) _ (r 3)
  unfold sm3
  omega
/-- a row of places as the class holds it -/
def KR (M : im_M) (D : Nat → Nat → Bool) (n : Nat) (f : Nat → Nat) : Prop := ∀ i, i < n → im_l M 62 i = lZ ((f i : Nat) : Int) ∧ im_i M 63 i = iZ (eW D (f i))
theorem s_part {M : im_M} {W H lo hi lim n i : Nat} {D : Nat → Nat → Bool} {f : Nat → Nat} (hW : W ≤ 512) (hH : H ≤ 512) (h : KR M D n f) (hi2 : hi ≤ 16) (hlo : 1 ≤ lo) (hS : StP W H D lo hi lim (f i)) (hi : i < n) (hn : n ≤ 300) : f_HFinder_part (nI i) 0 M = some (nI (kx (f i))) ∧ f_HFinder_part (nI i) 1 M = some (nI (ky (f i))) ∧ f_HFinder_part (nI i) 2 M = some (nI (km (f i))) ∧ f_HFinder_part (nI i) 3 M = some (nI (kv (f i))) := by
  have hb := hS.2.2.1
  have hz : 1 * 21 ≤ ksz (f i) := Nat.mul_le_mul (by have := hS.1; omega) (by have := hS.2.1; omega)
  have h1 : im_l M 62 i = pkey (kx (f i)) (ky (f i)) (km (f i)) (kv (f i)) (kq (f i)) := by
    rw [(h i hi).1]
    show _ = lZ ((key (kx (f i)) (ky (f i)) (km (f i)) (kv (f i)) (kq (f i)) : Nat) : Int)
    rw [key_of]
  have h2 : im_i M 63 i = nI (eW D (f i)).toNat := by
    rw [(h i hi).2, iZ_nI, Int.toNat_of_nonneg (eW_nn hS.2.1.1)]
  have := e_part (by omega) kx_lt (by omega) km_lt kv_lt kq_lt h1 h2
  exact ⟨this.1, this.2.1, this.2.2.1, this.2.2.2.1⟩
theorem s_common {M : im_M} {W H lo hi lim n i j : Nat} {D : Nat → Nat → Bool} {f : Nat → Nat} (hW : W ≤ 512) (hH : H ≤ 512) (h : KR M D n f) (hi2 : hi ≤ 16) (hlo : 1 ≤ lo) (hS : ∀ i, i < n → StP W H D lo hi lim (f i)) (hi : i < n) (hj : j < n) (hn : n ≤ 300) : ∃ b : Int32, f_HFinder_haveCommonDot (nI i) (nI j) M = some b ∧ (b = 0 ∨ b = 1) ∧ (¬ b = 0 ↔ mt (f i) (f j)) := by
  obtain ⟨i0, i1, i2, i3⟩ := s_part hW hH h hi2 hlo (hS i hi) hi hn
  obtain ⟨j0, j1, j2, j3⟩ := s_part hW hH h hi2 hlo (hS j hj) hj hn
  have bi := (hS i hi).2.2.1
  have bj := (hS j hj).2.2.1
  have e17 : ∀ v : Nat, (17 : Int32) + (4 : Int32) * nI v = nI (17 + 4 * v) := fun v => by rw [nI_m, nI_n, nI_add]
  unfold f_HFinder_haveCommonDot
  simp only [i0, i1, i2, i3, j0, j1, j2, j3, bd1_s, e17, nI_mul, nI_add]
  have kI : km (f i) * (17 + 4 * kv (f i)) = ksz (f i) := rfl
  have kJ : km (f j) * (17 + 4 * kv (f j)) = ksz (f j) := rfl
  rw [kI, kJ, if_nIl (by omega) (by omega), if_nIl (by omega) (by omega), if_nIl (by omega) (by omega), if_nIl (by omega) (by omega)]
  unfold mt
  by_cases c1 : kx (f j) + ksz (f j) ≤ kx (f i)
  · rw [if_pos c1]; exact ⟨0, rfl, Or.inl rfl, ⟨fun z => absurd rfl z, fun z => by omega⟩⟩
  · rw [if_neg c1]
    by_cases c2 : kx (f i) + ksz (f i) ≤ kx (f j)
    · rw [if_pos c2]; exact ⟨0, rfl, Or.inl rfl, ⟨fun z => absurd rfl z, fun z => by omega⟩⟩
    · rw [if_neg c2]
      by_cases c3 : ky (f j) + ksz (f j) ≤ ky (f i)
      · rw [if_pos c3]; exact ⟨0, rfl, Or.inl rfl, ⟨fun z => absurd rfl z, fun z => by omega⟩⟩
      · rw [if_neg c3]
        by_cases c4 : ky (f i) + ksz (f i) ≤ ky (f j)
        · rw [if_pos c4]; exact ⟨0, rfl, Or.inl rfl, ⟨fun z => absurd rfl z, fun z => by omega⟩⟩
        · rw [if_neg c4]; exact ⟨1, rfl, Or.inr rfl, ⟨fun _ => by omega, fun _ => by decide⟩⟩
def bad (D : Nat → Nat → Bool) (f : Nat → Nat) (i j : Nat) : Prop := bt D (f j) (f i) ∧ mt (f i) (f j)
/-- place i, held against the first m -/
def lds (M : im_M) (D : Nat → Nat → Bool) (f : Nat → Nat) (i m : Nat) : Prop := (im_i M 64 i = 1 ∧ ∀ j, j < m → ¬ bad D f i j) ∨ (im_i M 64 i = 0 ∧ ∃ j, j < m ∧ bad D f i j)
theorem s_leads {M : im_M} {W H lo hi lim n : Nat} {D : Nat → Nat → Bool} {f : Nat → Nat} (hW : W ≤ 512) (hH : H ≤ 512) (h : KR M D n f) (hi2 : hi ≤ 16) (hlo : 1 ≤ lo) (hlim : lim ≤ 500) (hS : ∀ i, i < n → StP W H D lo hi lim (f i)) (hn : n ≤ 300) (h8 : im_i M 59 8 = nI n) (hinc : inc f n) : ed (lp (uc2 (f_HFinder_keepLeaders_L2)) (0, M)) (fun r => fr (2 ^ 64) [] M r ∧ ∀ i, i < n → lds r D f i n) := by
  have eb : ∀ i, i < n → 0 ≤ eW D (f i) ∧ eW D (f i) ≤ 500 := fun i hi => ⟨eW_nn (hS i hi).2.1.1, by have := (hS i hi).2.2.2; omega⟩
  refine lp_inv (fun k (s : Int32 × im_M) => ∃ i : Nat, i + k = n ∧ s.1 = nI i ∧ fr (2 ^ 64) [] M s.2 ∧ ∀ a, a < i → lds s.2 D f a n) ?_ (k := n) ⟨0, by omega, rfl, fr_refl, fun a ha => absurd ha (by omega)⟩
  rintro k ⟨x2, M3⟩ ⟨i, hi, e1, g, hl⟩
  replace e1 : x2 = nI i := e1
  replace g : fr (2 ^ 64) [] M M3 := g
  replace hl : ∀ a, a < i → lds M3 D f a n := hl
  subst e1
  have e8 : im_i M3 59 8 = nI n := (g.1 59 8 (by decide) (by decide)).trans h8
  show ed (f_HFinder_keepLeaders_L2 (nI i) M3) _
  unfold f_HFinder_keepLeaders_L2
  rw [e8, if_nIl (by omega) (by omega)]
  by_cases c : n ≤ i
  · rw [if_pos c]
    exact lpo_r ⟨g, fun a ha => hl a (by omega)⟩
  · rw [if_neg c, gd_pos (by rw [inb_nI (by omega)]; omega), nI_clamp (by omega)]
    apply bd1_mk
    refine ed_mono (lp_inv (fun k (s : Int32 × im_M) => ∃ j : Nat, j + k = n ∧ s.1 = nI j ∧ fr (2 ^ 64) [] M s.2 ∧ (∀ a, a < i → lds s.2 D f a n) ∧ lds s.2 D f i j) (Q := fun r => fr (2 ^ 64) [] M r ∧ (∀ a, a < i → lds r D f a n) ∧ lds r D f i n) ?_ (k := n) ⟨0, by omega, rfl, fr_I (by decide) g, ?_, Or.inl ⟨?_, fun j hj => absurd hj (by omega)⟩⟩) ?_
    · rintro k ⟨x6, M7⟩ ⟨j, hj, e1, g, hl, hi2'⟩
      replace e1 : x6 = nI j := e1
      replace g : fr (2 ^ 64) [] M M7 := g
      replace hl : ∀ a, a < i → lds M7 D f a n := hl
      replace hi2' : lds M7 D f i j := hi2'
      subst e1
      have e8 : im_i M7 59 8 = nI n := (g.1 59 8 (by decide) (by decide)).trans h8
      have k7 : KR M7 D n f := fun a ha => by
        rw [show im_l M7 62 = im_l M 62 from g.2 62 (by decide), show im_i M7 63 = im_i M 63 from fr_c g 63 (by decide) (by decide)]
        exact h a ha
      show ed (f_HFinder_keepLeaders_L19 (nI i) (nI j) M7) _
      unfold f_HFinder_keepLeaders_L19
      rw [e8, if_nIl (by omega) (by omega)]
      by_cases c2 : n ≤ j
      · rw [if_pos c2]
        obtain rfl : j = n := by omega
        exact lpo_r ⟨g, hl, hi2'⟩
      · rw [if_neg c2, gd_pos (by rw [inb_nI (by omega)]; omega), gd_pos (by rw [inb_nI (by omega)]; omega), nI_clamp (by omega), nI_clamp (by omega), (k7 i (by omega)).2, (k7 j (by omega)).2]
        have bi := eb i (by omega)
        have bj := eb j (by omega)
        have hij : i ≤ j ↔ ¬ f j < f i := by
          constructor
          · intro z
            by_cases e : i = j
            · subst e; omega
            · have := hinc i j (by omega) (by omega); omega
          · intro z
            apply Classical.byContradiction
            intro z2
            exact z (hinc j i (by omega) (by omega))
        have nx : ∀ M9 : im_M, fr (2 ^ 64) [] M M9 → (∀ a, a < i → lds M9 D f a n) → lds M9 D f i (j + 1) → ed (some (Sum.inl (nI j + 1, M9))) (lpo (fun k (s : Int32 × im_M) => ∃ j : Nat, j + k = n ∧ s.1 = nI j ∧ fr (2 ^ 64) [] M s.2 ∧ (∀ a, a < i → lds s.2 D f a n) ∧ lds s.2 D f i j) (fun r => fr (2 ^ 64) [] M r ∧ (∀ a, a < i → lds r D f a n) ∧ lds r D f i n) k) := fun M9 a b d => lpo_l (k - 1) (by omega) ⟨j + 1, by omega, nI_add j 1, a, b, d⟩
        have keep : ¬ bad D f i j → ed (some (Sum.inl (nI j + 1, M7))) (lpo (fun k (s : Int32 × im_M) => ∃ j : Nat, j + k = n ∧ s.1 = nI j ∧ fr (2 ^ 64) [] M s.2 ∧ (∀ a, a < i → lds s.2 D f a n) ∧ lds s.2 D f i j) (fun r => fr (2 ^ 64) [] M r ∧ (∀ a, a < i → lds r D f a n) ∧ lds r D f i n) k) := by
          intro nb
          refine nx M7 g hl ?_
          rcases hi2' with ⟨a, b⟩ | ⟨a, b, d, e⟩
          · refine Or.inl ⟨a, fun j' hj' => ?_⟩
            by_cases e : j' = j
            · rw [e]; exact nb
            · exact b j' (by omega)
          · exact Or.inr ⟨a, b, by omega, e⟩
        have yes : bt D (f j) (f i) → ed (bd1 (some (1 : Int32)) fun (y17 : Int32) => bd1 (if y17 = 0 then some M7 else bd1 (f_HFinder_haveCommonDot (nI i) (nI j) M7) fun (x22 : Int32) => if x22 = 0 then some M7 else gd (inb (nI i) 300) <| some (im_setI M7 64 i (vp_nar .boolean 0))) fun (M23 : im_M) => some (Sum.inl ((nI j + 1), M23))) (lpo (fun k (s : Int32 × im_M) => ∃ j : Nat, j + k = n ∧ s.1 = nI j ∧ fr (2 ^ 64) [] M s.2 ∧ (∀ a, a < i → lds s.2 D f a n) ∧ lds s.2 D f i j) (fun r => fr (2 ^ 64) [] M r ∧ (∀ a, a < i → lds r D f a n) ∧ lds r D f i n) k) := by
          intro hb
          obtain ⟨b, e1, e2, e3⟩ := s_common hW hH k7 hi2 hlo hS (show i < n by omega) (show j < n by omega) hn
          rw [bd1_s, if_neg (by decide), e1, bd1_s]
          by_cases c3 : b = 0
          · rw [if_pos c3, bd1_s]
            exact keep (fun z => (e3.mpr z.2) c3)
          · rw [if_neg c3, gd_pos (by rw [inb_nI (by omega)]; omega), bd1_s]
            refine nx _ (fr_I (by decide) g) (fun a ha => ?_) (Or.inr ⟨?_, j, by omega, hb, e3.mp c3⟩)
            · have : im_i (im_setI M7 64 i (vp_nar .boolean 0)) 64 a = im_i M7 64 a := by rw [mi_I, if_pos rfl, if_neg (by omega)]
              unfold lds
              rw [this]
              exact hl a ha
            · rw [mi_I, if_pos rfl, if_pos rfl]
              rfl
        have no : ¬ bt D (f j) (f i) → ed (bd1 (some (0 : Int32)) fun (y17 : Int32) => bd1 (if y17 = 0 then some M7 else bd1 (f_HFinder_haveCommonDot (nI i) (nI j) M7) fun (x22 : Int32) => if x22 = 0 then some M7 else gd (inb (nI i) 300) <| some (im_setI M7 64 i (vp_nar .boolean 0))) fun (M23 : im_M) => some (Sum.inl ((nI j + 1), M23))) (lpo (fun k (s : Int32 × im_M) => ∃ j : Nat, j + k = n ∧ s.1 = nI j ∧ fr (2 ^ 64) [] M s.2 ∧ (∀ a, a < i → lds s.2 D f a n) ∧ lds s.2 D f i j) (fun r => fr (2 ^ 64) [] M r ∧ (∀ a, a < i → lds r D f a n) ∧ lds r D f i n) k) := by
          intro hb
          rw [bd1_s, if_pos rfl, bd1_s]
          exact keep (fun z => hb z.1)
        show ed (bd1 (if iZ (eW D (f j)) < iZ (eW D (f i)) then some 1 else gd (inb (nI j) 300) <| gd (inb (nI i) 300) <| if ¬ iZ (eW D (f j)) = iZ (eW D (f i)) then some 0 else if nI i ≤ nI j then some 0 else some 1) _) _
        rw [if_iZlt (by omega) (by omega)]
        by_cases d1 : eW D (f j) < eW D (f i)
        · rw [if_pos d1]
          exact yes (Or.inl d1)
        · have ee : (iZ (eW D (f j)) = iZ (eW D (f i))) = (eW D (f j) = eW D (f i)) := iZ_eq (by omega) (by omega)
          rw [if_neg d1, gd_pos (by rw [inb_nI (by omega)]; omega), gd_pos (by rw [inb_nI (by omega)]; omega)]
          simp only [ee]
          by_cases d2 : eW D (f j) = eW D (f i)
          · rw [if_neg (fun z => z d2), if_nIl (by omega) (by omega)]
            by_cases d3 : i ≤ j
            · rw [if_pos d3]
              refine no ?_
              rintro (z | ⟨_, z⟩)
              · exact d1 z
              · exact hij.mp d3 z
            · rw [if_neg d3]
              exact yes (Or.inr ⟨d2, hinc j i (by omega) (by omega)⟩)
          · rw [if_pos d2]
            refine no ?_
            rintro (z | ⟨z, _⟩)
            · exact d1 z
            · exact d2 z
    · intro a ha
      have : im_i (im_setI M3 64 i (vp_nar .boolean 1)) 64 a = im_i M3 64 a := by rw [mi_I, if_pos rfl, if_neg (by omega)]
      show lds (im_setI M3 64 i (vp_nar .boolean 1)) D f a n
      unfold lds
      rw [this]
      exact hl a ha
    · show im_i (im_setI M3 64 i (vp_nar .boolean 1)) 64 i = 1
      rw [mi_I, if_pos rfl, if_pos rfl]
      rfl
    · rintro r ⟨a, b, d⟩
      refine lpo_l (k - 1) (by omega) ⟨i + 1, by omega, nI_add i 1, a, fun x hx => ?_⟩
      by_cases e : x = i
      · rw [e]; exact d
      · exact b x (by omega)
