/-! THE CLASS KEEPS A PLACE -/
def sQ {A B : Type} (P : A → Prop) (R : B → Prop) (u : A ⊕ B) : Prop := match u with
  | .inl a => P a
  | .inr b => R b
theorem bs1_q {T X Y : Type} {x : Option (T ⊕ X)} {k : T → Option Y} {r : X → Option Y} {Q : Y → Prop} {P : T → Prop} {R : X → Prop} (h : ed x (sQ P R)) (h1 : ∀ t, P t → ed (k t) Q) (h2 : ∀ s, R s → ed (r s) Q) : ed (bs1 x k r) Q := by
  obtain ⟨u, e, h⟩ := h
  rw [e]
  cases u with
  | inl t => exact h1 t h
  | inr s => exact h2 s h
theorem bs2_q {T U X Y : Type} {x : Option ((T × U) ⊕ X)} {k : T → U → Option Y} {r : X → Option Y} {Q : Y → Prop} {P : T × U → Prop} {R : X → Prop} (h : ed x (sQ P R)) (h1 : ∀ t, P t → ed (k t.1 t.2) Q) (h2 : ∀ s, R s → ed (r s) Q) : ed (bs2 x k r) Q := by
  obtain ⟨u, e, h⟩ := h
  rw [e]
  cases u with
  | inl t => exact h1 t h
  | inr s => exact h2 s h
/-- the places kept, in their order: those of S -/
def FS (M : im_M) (D : Nat → Nat → Bool) (S : Nat → Prop) : Prop := ∃ (n : Nat) (f : Nat → Nat), n ≤ 300 ∧ im_i M 59 8 = nI n ∧ inc f n ∧ (∀ k, S k ↔ ∃ i, i < n ∧ f i = k) ∧ ∀ i, i < n → f i < 2147483648 ∧ im_l M 62 i = lZ ((f i : Nat) : Int) ∧ im_i M 63 i = iZ (eW D (f i))
theorem FS_fr {A : Nat} {F : List (Nat × Nat)} {M M' : im_M} {D : Nat → Nat → Bool} {S : Nat → Prop} (h : fr A F M M') (c : clr A F [63] [(59, 8)] [62] = true) (q : FS M D S) : FS M' D S := by
  unfold FS at q ⊢
  rw [clr_f c h (a := 59) (k := 8) (by decide), clr_a c h (a := 63) (by decide), clr_l c h (a := 62) (by decide)]
  exact q
theorem FS_S {M : im_M} {D : Nat → Nat → Bool} {S T : Nat → Prop} (h : ∀ k, S k ↔ T k) (q : FS M D S) : FS M D T := by
  obtain ⟨n, f, a, b, c, d, e⟩ := q
  exact ⟨n, f, a, b, c, fun k => (h k).symm.trans (d k), e⟩
/-- more of them than there is room for -/
def OV (S : Nat → Prop) : Prop := ∃ f : Nat → Nat, ijc f 301 ∧ ∀ i, i < 301 → S (f i)
theorem OV_S {S T : Nat → Prop} (h : ∀ k, S k → T k) (q : OV S) : OV T := by
  obtain ⟨f, a, b⟩ := q
  exact ⟨f, a, fun i hi => h _ (b i hi)⟩
theorem ov_1 {S : Nat → Prop} {f : Nat → Nat} {k : Nat} (hf : ijc f 300) (hS : ∀ i, i < 300 → S (f i)) (hk : ¬ S k) : OV (fun j => S j ∨ j = k) := by
  refine ⟨fun i => if i < 300 then f i else k, fun i j hij hj => ?_, fun i hi => ?_⟩
  · show (if _ then _ else _) ≠ (if _ then _ else _)
    rw [if_pos (show i < 300 by omega)]
    by_cases c : j < 300
    · rw [if_pos c]; exact hf i j hij c
    · rw [if_neg c]; exact fun z => hk (z ▸ hS i (by omega))
  · show S (if _ then _ else _) ∨ (if _ then _ else _) = k
    by_cases c : i < 300
    · rw [if_pos c]; exact Or.inl (hS i c)
    · rw [if_neg c]; exact Or.inr rfl
theorem key_l {x y m v q : Nat} (hx : x < 512) (hy : y < 512) (hm : m < 32) (hv : v < 64) (hq : q < 4) : (((((Int32.toInt64 (nI y)) * 512 + (Int32.toInt64 (nI x))) * 32 + (Int32.toInt64 (nI m))) * 64 + (Int32.toInt64 (nI v))) * 4 + (Int32.toInt64 (nI q))) = lZ ((key x y m v q : Nat) : Int) := by
  simp only [iZ_nI]
  rw [iZ_l (by omega), iZ_l (by omega), iZ_l (by omega), iZ_l (by omega), iZ_l (by omega)]
  rw [lZ_n, lZ_mul, lZ_add, lZ_n, lZ_mul, lZ_add, lZ_n, lZ_mul, lZ_add, lZ_n, lZ_mul, lZ_add]
  congr 1
theorem key_b {x y m v q : Nat} (hx : x < 512) (hy : y < 512) (hm : m < 32) (hv : v < 64) (hq : q < 4) : key x y m v q < 2147483648 := by
  unfold key
  omega
theorem s_add {M : im_M} {D : Nat → Nat → Bool} {S : Nat → Prop} {x y m v q : Nat} (h : FS M D S) (hm : im_i M 59 9 = nI m) (b1 : x < 512) (b2 : y < 512) (b3 : m < 32) (b4 : v < 64) (b5 : q < 4) (hn : ¬ S (key x y m v q)) : ed (f_HFinder_add (nI x) (nI y) (nI v) (nI q) (iZ (eW D (key x y m v q))) M) (fun r => fr (2 ^ 62 ||| 2 ^ 63) [(59, 8)] M r.2 ∧ ((r.1 = 1 ∧ FS r.2 D (fun j => S j ∨ j = key x y m v q)) ∨ (r.1 = 0 ∧ OV (fun j => S j ∨ j = key x y m v q)))) := by
  obtain ⟨n, f, hn3, h8, hinc, hS, hf⟩ := h
  have kb := key_b b1 b2 b3 b4 b5
  unfold f_HFinder_add
  rw [hm, key_l b1 b2 b3 b4 b5, h8]
  generalize key x y m v q = k at hn kb ⊢
  have e300 : (nI n = 300) = (n = 300) := nIe (c := 300) (by omega) (by omega)
  simp only [e300]
  by_cases c : n = 300
  · rw [if_neg (fun z => z c)]
    subst c
    exact ed_mk ⟨fr_refl, Or.inr ⟨rfl, ov_1 (inc_ijc hinc) (fun i hi => (hS _).mpr ⟨i, hi, rfl⟩) hn⟩⟩
  · rw [if_pos c]
    apply bd2_mk
    refine ed_mono (lp_inv (fun p s => p ≤ n ∧ s.1 = nI p ∧ fr (2 ^ 62 ||| 2 ^ 63) [(59, 8)] M s.2 ∧ im_i s.2 59 8 = nI n ∧ (∀ i, i < p → im_l s.2 62 i = lZ ((f i : Nat) : Int) ∧ im_i s.2 63 i = iZ (eW D (f i))) ∧ (∀ i, p < i → i ≤ n → im_l s.2 62 i = lZ ((f (i - 1) : Nat) : Int) ∧ im_i s.2 63 i = iZ (eW D (f (i - 1)))) ∧ ∀ i, p ≤ i → i < n → k < f i) (Q := fun s => ∃ p, p ≤ n ∧ s.1 = nI p ∧ fr (2 ^ 62 ||| 2 ^ 63) [(59, 8)] M s.2 ∧ im_i s.2 59 8 = nI n ∧ (∀ i, i < p → im_l s.2 62 i = lZ ((f i : Nat) : Int) ∧ im_i s.2 63 i = iZ (eW D (f i))) ∧ (∀ i, p < i → i ≤ n → im_l s.2 62 i = lZ ((f (i - 1) : Nat) : Int) ∧ im_i s.2 63 i = iZ (eW D (f (i - 1)))) ∧ (∀ i, p ≤ i → i < n → k < f i) ∧ ∀ i, i < p → f i < k) ?_ (k := n) ⟨by omega, rfl, fr_refl, h8, fun i hi => (hf i hi).2, fun i a b => absurd a (by omega), fun i a b => absurd a (by omega)⟩) ?_
    · rintro p ⟨x4, M5⟩ ⟨hp, e1, g1, g2, g3, g4, g5⟩
      replace e1 : x4 = nI p := e1
      replace g1 : fr (2 ^ 62 ||| 2 ^ 63) [(59, 8)] M M5 := g1
      replace g2 : im_i M5 59 8 = nI n := g2
      replace g3 : ∀ i, i < p → im_l M5 62 i = lZ ((f i : Nat) : Int) ∧ im_i M5 63 i = iZ (eW D (f i)) := g3
      replace g4 : ∀ i, p < i → i ≤ n → im_l M5 62 i = lZ ((f (i - 1) : Nat) : Int) ∧ im_i M5 63 i = iZ (eW D (f (i - 1))) := g4
      subst e1
      show ed (f_HFinder_add_L54 _ _ (nI p) M5) _
      unfold f_HFinder_add_L54
      have e0 : (nI p ≤ 0) = (p ≤ 0) := nIl (c := 0) (by omega) (by omega)
      simp only [e0]
      by_cases c0 : p ≤ 0
      · rw [if_pos c0]
        exact lpo_r ⟨p, hp, rfl, g1, g2, g3, g4, g5, fun i hi => absurd hi (by omega)⟩
      · have em : nI p - 1 = nI (p - 1) := nI_m1 (by omega)
        rw [if_neg c0, em, gd_pos (by rw [inb_nI (by omega)]; omega), nI_clamp (by omega), (g3 (p - 1) (by omega)).1]
        have hb := (hf (p - 1) (by omega)).1
        have ec : (lg_cmp (lZ ((f (p - 1) : Nat) : Int)) (lZ ((k : Nat) : Int)) ≤ 0) = ¬ k < f (p - 1) := by
          rw [lc_le, lZ_lt (by omega) (by omega)]
          simp only [Int.ofNat_lt]
        simp only [ec]
        by_cases c1 : k < f (p - 1)
        · rw [if_neg (fun z => z c1), gd_pos (by rw [inb_nI (by omega)]; omega), gd_pos (by rw [inb_nI (by omega)]; omega), gd_pos (by rw [inb_nI (by omega)]; omega), gd_pos (by rw [inb_nI (by omega)]; omega), nI_clamp (by omega)]
          have e7 : nI p + (-1) = nI (p - 1) := by
            have : (-1 : Int32) = iZ (-1) := rfl
            rw [iZ_nI, this, iZ_add, iZ_nI]
            congr 1
            omega
          rw [e7]
          refine lpo_l (p - 1) (by omega) ⟨by omega, rfl, fr_I (by decide) (fr_L (by decide) g1), g2, fun i hi => ?_, fun i a b => ?_, fun i a b => ?_⟩
          · show (if i = p then lZ ((f (p - 1) : Nat) : Int) else im_l M5 62 i) = _ ∧ (if i = p then im_i M5 63 (p - 1) else im_i M5 63 i) = _
            rw [if_neg (by omega), if_neg (by omega)]
            exact g3 i (by omega)
          · show (if i = p then lZ ((f (p - 1) : Nat) : Int) else im_l M5 62 i) = _ ∧ (if i = p then im_i M5 63 (p - 1) else im_i M5 63 i) = _
            by_cases e : i = p
            · subst e
              rw [if_pos rfl, if_pos rfl]
              exact ⟨rfl, (g3 (i - 1) (by omega)).2⟩
            · rw [if_neg e, if_neg e]
              exact g4 i (by omega) b
          · by_cases e : i = p - 1
            · rw [e]; exact c1
            · exact g5 i (by omega) b
        · rw [if_pos c1]
          have lt : f (p - 1) < k := by
            rcases Nat.lt_trichotomy (f (p - 1)) k with z | z | z
            · exact z
            · exact absurd ((hS k).mpr ⟨p - 1, by omega, z⟩) hn
            · exact absurd z c1
          refine lpo_r ⟨p, hp, rfl, g1, g2, g3, g4, g5, fun i hi => ?_⟩
          by_cases e : i = p - 1
          · rw [e]; exact lt
          · exact Nat.lt_trans (hinc i (p - 1) (by omega) (by omega)) lt
    · rintro ⟨y6, M7⟩ ⟨p, hp, e1, g1, g2, g3, g4, g5, g6⟩
      replace e1 : y6 = nI p := e1
      replace g1 : fr (2 ^ 62 ||| 2 ^ 63) [(59, 8)] M M7 := g1
      replace g2 : im_i M7 59 8 = nI n := g2
      replace g3 : ∀ i, i < p → im_l M7 62 i = lZ ((f i : Nat) : Int) ∧ im_i M7 63 i = iZ (eW D (f i)) := g3
      replace g4 : ∀ i, p < i → i ≤ n → im_l M7 62 i = lZ ((f (i - 1) : Nat) : Int) ∧ im_i M7 63 i = iZ (eW D (f (i - 1))) := g4
      subst e1
      show ed (gd (inb (nI p) 300) _) _
      rw [gd_pos (by rw [inb_nI (by omega)]; omega), gd_pos (by rw [inb_nI (by omega)]; omega), nI_clamp (by omega)]
      refine ed_mk ⟨fr_F (by decide) (fr_I (by decide) (fr_L (by decide) g1)), Or.inl ⟨rfl, n + 1, ins f p k, by omega, ?_, inc_ins hinc hp g6 g5, fun j => ?_, fun i hi => ⟨?_, ?_⟩⟩⟩
      · show im_i M7 59 8 + 1 = _
        rw [g2]
        exact nI_add n 1
      · rw [mem_ins hp, ← hS]
      · unfold ins
        by_cases a : i < p
        · rw [if_pos a]; exact (hf i (by omega)).1
        · by_cases b : i = p
          · rw [if_neg a, if_pos b]; exact kb
          · rw [if_neg a, if_neg b]; exact (hf (i - 1) (by omega)).1
      · show (if i = p then lZ ((k : Nat) : Int) else im_l M7 62 i) = _ ∧ (if i = p then iZ (eW D k) else im_i M7 63 i) = _
        unfold ins
        by_cases a : i < p
        · rw [if_pos a, if_neg (by omega), if_neg (by omega)]; exact g3 i a
        · by_cases b : i = p
          · rw [if_neg a, if_pos b, if_pos b, if_pos b]; exact ⟨rfl, rfl⟩
          · rw [if_neg a, if_neg b, if_neg b, if_neg b]; exact g4 i (by omega) (by omega)
