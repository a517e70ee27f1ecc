/-! TWO LOOPS SIDE BY SIDE -/
theorem lp_r {S R : Type} {b : S → Option (S ⊕ R)} {s : S} {r : R} (h : b s = some (.inr r)) : lp b s = some r := lp_of (n := 1) (by unfold lpn; rw [h])
theorem lp_l {S R : Type} {b : S → Option (S ⊕ R)} {s s' : S} {r : R} (h : b s = some (.inl s')) (h2 : lp b s' = some r) : lp b s = some r := by
  obtain ⟨n, hn⟩ := lp_n h2
  exact lp_of (n := n + 1) (by unfold lpn; rw [h]; exact hn)
/-- what a turn of two loops leaves: the first goes on alone, or both go on, or both end -/
def tw {S1 R1 S2 R2 : Type} (I : Nat → S1 → S2 → Prop) (Q : R1 → R2 → Prop) (k : Nat) (s2 : S2) (o2 : Option (S2 ⊕ R2)) (x1 : S1 ⊕ R1) : Prop := (∃ s1', x1 = .inl s1' ∧ ∃ k', k' < k ∧ I k' s1' s2) ∨ ed o2 (fun x2 => (∃ s1' s2', x1 = .inl s1' ∧ x2 = .inl s2' ∧ ∃ k', k' < k ∧ I k' s1' s2') ∨ ∃ r1 r2, x1 = .inr r1 ∧ x2 = .inr r2 ∧ Q r1 r2)
theorem lp_two {S1 R1 S2 R2 : Type} {b1 : S1 → Option (S1 ⊕ R1)} {b2 : S2 → Option (S2 ⊕ R2)} (I : Nat → S1 → S2 → Prop) {Q : R1 → R2 → Prop} (hb : ∀ k s1 s2, I k s1 s2 → ed (b1 s1) (tw I Q k s2 (b2 s2))) : ∀ {k : Nat} {s1 : S1} {s2 : S2}, I k s1 s2 → ed (lp b1 s1) (fun r1 => ed (lp b2 s2) (fun r2 => Q r1 r2)) := by
  intro k
  induction k using Nat.strongRecOn with
  | ind k ih =>
    intro s1 s2 h
    obtain ⟨x1, e1, h1⟩ := hb k s1 s2 h
    rcases h1 with ⟨s1', rfl, k', hk, hI⟩ | ⟨x2, e2, h2⟩
    · obtain ⟨r1, q1, r2, q2, hQ⟩ := ih k' hk hI
      exact ⟨r1, lp_l e1 q1, r2, q2, hQ⟩
    · rcases h2 with ⟨s1', s2', rfl, rfl, k', hk, hI⟩ | ⟨r1, r2, rfl, rfl, hQ⟩
      · obtain ⟨r1, q1, r2, q2, hQ⟩ := ih k' hk hI
        exact ⟨r1, lp_l e1 q1, r2, lp_l e2 q2, hQ⟩
      · exact ⟨r1, lp_r e1, r2, lp_r e2, hQ⟩
theorem two_l {S1 R1 S2 R2 : Type} {I : Nat → S1 → S2 → Prop} {Q : R1 → R2 → Prop} {k : Nat} {s1 : S1} {t2 : S2} {o2 : Option (S2 ⊕ R2)} (k' : Nat) (hk : k' < k) {s2 : S2} (e2 : o2 = some (.inl s2)) (h : I k' s1 s2) : ed (some (.inl s1 : S1 ⊕ R1)) (tw I Q k t2 o2) := ⟨_, rfl, Or.inr ⟨_, e2, Or.inl ⟨s1, s2, rfl, rfl, k', hk, h⟩⟩⟩
theorem two_r {S1 R1 S2 R2 : Type} {I : Nat → S1 → S2 → Prop} {Q : R1 → R2 → Prop} {k : Nat} {r1 : R1} {t2 : S2} {o2 : Option (S2 ⊕ R2)} {r2 : R2} (e2 : o2 = some (.inr r2)) (h : Q r1 r2) : ed (some (.inr r1 : S1 ⊕ R1)) (tw I Q k t2 o2) := ⟨_, rfl, Or.inr ⟨_, e2, Or.inr ⟨r1, r2, rfl, rfl, h⟩⟩⟩
theorem two_o {S1 R1 S2 R2 : Type} {I : Nat → S1 → S2 → Prop} {Q : R1 → R2 → Prop} {k : Nat} {s1 : S1} {t2 : S2} {o2 : Option (S2 ⊕ R2)} (k' : Nat) (hk : k' < k) (h : I k' s1 t2) : ed (some (.inl s1 : S1 ⊕ R1)) (tw I Q k t2 o2) := ⟨_, rfl, Or.inl ⟨s1, rfl, k', hk, h⟩⟩
/-! WHAT IS STILL TO BE READ -/
def bl (f : Nat → Int32) (a : Nat) : Nat → List Int32
  | 0 => []
  | m + 1 => f a :: bl f (a + 1) m
theorem bl_len {f : Nat → Int32} : ∀ {m a : Nat}, (bl f a m).length = m := by
  intro m
  induction m with
  | zero => intro a; rfl
  | succ m ih => intro a; show (bl f (a + 1) m).length + 1 = m + 1; rw [ih]
theorem bl_c {f g : Nat → Int32} : ∀ {m a : Nat}, (∀ p, a ≤ p → p < a + m → f p = g p) → bl f a m = bl g a m := by
  intro m
  induction m with
  | zero => intro a _; rfl
  | succ m ih =>
    intro a h
    show f a :: bl f (a + 1) m = g a :: bl g (a + 1) m
    rw [h a (by omega) (by omega), ih (fun p h1 h2 => h p (by omega) (by omega))]
def LV (M : im_M) : Nat → List Int32 → Prop
  | 0, S => ∃ a m : Nat, im_i M 8 0 = nI a ∧ im_i M 1 1 = nI (a + m) ∧ a + m ≤ 4096 ∧ S = bl (fun p => im_i M 2 p &&& 255) a m
  | d + 1, S => ∃ (k a m : Nat) (T : List Int32), k < 8 ∧ im_i M 7 (d + 1) = nI k ∧ im_i M 8 (d + 1) = nI a ∧ im_i M 4 k = nI (a + m) ∧ a + m ≤ 400 ∧ S = bl (fun p => im_i M 3 (400 * k + p) &&& 255) a m ++ (-1) :: T ∧ LV M d T
/-- the class's cursor -/
def CS (M : im_M) (d : Nat) (S : List Int32) : Prop := d ≤ 4 ∧ im_i M 1 6 = nI d ∧ LV M d S
def PD (M : im_M) : List Int32 → Prop
  | [] => True
  | h :: T => im_i M 77 T.length = h ∧ PD M T
/-- the reference's pile -/
def MS (M : im_M) (S : List Int32) : Prop := im_i M 71 8 = nI S.length ∧ S.length ≤ 5800 ∧ PD M S
def nxB (S : List Int32) : Int32 := match S with
  | [] => -1
  | h :: _ => h
theorem LV_c {M M' : im_M} (h1 : im_i M' 1 1 = im_i M 1 1) (h2 : im_i M' 2 = im_i M 2) (h3 : im_i M' 3 = im_i M 3) (h4 : im_i M' 4 = im_i M 4) : ∀ d S, (∀ j, j ≤ d → im_i M' 8 j = im_i M 8 j ∧ im_i M' 7 j = im_i M 7 j) → LV M d S → LV M' d S := by
  intro d
  induction d with
  | zero =>
    rintro S h8 ⟨a, m, e1, e2, e3, e4⟩
    exact ⟨a, m, (h8 0 (by omega)).1.trans e1, h1.trans e2, e3, by rw [h2]; exact e4⟩
  | succ d ih =>
    rintro S h8 ⟨k, a, m, T, e0, e1, e2, e3, e4, e5, e6⟩
    exact ⟨k, a, m, T, e0, (h8 (d + 1) (by omega)).2.trans e1, (h8 (d + 1) (by omega)).1.trans e2, by rw [h4]; exact e3, e4, by rw [h3]; exact e5, ih T (fun j hj => h8 j (by omega)) e6⟩
theorem CS_fr {A : Nat} {F : List (Nat × Nat)} {M M' : im_M} {d : Nat} {S : List Int32} (h : fr A F M M') (c : clr A F [2, 3, 4, 7, 8] [(1, 1), (1, 6)] [] = true) (q : CS M d S) : CS M' d S := by
  refine ⟨q.1, (clr_f c h (a := 1) (k := 6) (by decide)).trans q.2.1, LV_c (clr_f c h (a := 1) (k := 1) (by decide)) (clr_a c h (a := 2) (by decide)) (clr_a c h (a := 3) (by decide)) (clr_a c h (a := 4) (by decide)) d S (fun j _ => ?_) q.2.2⟩
  rw [clr_a c h (a := 7) (by decide), clr_a c h (a := 8) (by decide)]
  exact ⟨rfl, rfl⟩
theorem PD_c {M M' : im_M} : ∀ {S : List Int32}, (∀ p, p < S.length → im_i M' 77 p = im_i M 77 p) → PD M S → PD M' S := by
  intro S
  induction S with
  | nil => intro _ _; trivial
  | cons h T ih =>
    intro e q
    have l : (h :: T).length = T.length + 1 := rfl
    exact ⟨(e T.length (by omega)).trans q.1, ih (fun p hp => e p (by omega)) q.2⟩
theorem MS_fr {A : Nat} {F : List (Nat × Nat)} {M M' : im_M} {S : List Int32} (h : fr A F M M') (c : clr A F [77] [(71, 8)] [] = true) (q : MS M S) : MS M' S := by
  refine ⟨(clr_f c h (a := 71) (k := 8) (by decide)).trans q.1, q.2.1, PD_c (fun p _ => ?_) q.2.2⟩
  rw [clr_a c h (a := 77) (by decide)]
theorem by255 {x : Int32} : ∃ n : Nat, n < 256 ∧ x &&& 255 = nI n := by
  obtain ⟨a, rfl, _, _⟩ := iZ_of x
  refine ⟨(a % 256).toNat, by omega, ?_⟩
  have e : (255 : Int32) = iZ ((2 ^ 8 - 1 : Nat) : Int) := rfl
  rw [e, iZ_and 8 (by decide), iZ_nI]
  congr 1
  have : (((a % 256).toNat : Nat) : Int) = a % 256 := Int.toNat_of_nonneg (by omega)
  rw [this]
  rfl
theorem nI_nm1 {n : Nat} (h : n < 1000000) : ¬ nI n = -1 := by
  have e : (-1 : Int32) = iZ (-1) := rfl
  rw [iZ_nI, e, iZ_eq (by omega) (by omega)]
  omega
theorem by255_n {x : Int32} : ¬ x &&& 255 = -1 := by
  obtain ⟨n, hn, e⟩ := by255 (x := x)
  rw [e]
  exact nI_nm1 (by omega)
theorem s_nextC {M : im_M} {d : Nat} {S : List Int32} (q : CS M d S) : f_HTape_next M = some (nxB S) := by
  obtain ⟨hd, e6, hl⟩ := q
  unfold f_HTape_next
  have c0 : (nI d = 0) = (d = 0) := nIe (c := 0) (by omega) (by omega)
  rw [e6, gd_pos (by rw [inb_nI (by omega)]; omega), nI_clamp (by omega)]
  simp only [c0]
  cases d with
  | zero =>
    obtain ⟨a, m, h1, h2, h3, rfl⟩ := hl
    rw [if_neg (fun z => z rfl), h1, h2, if_nIl (by omega) (by omega)]
    cases m with
    | zero => rw [if_pos (by omega)]; rfl
    | succ m => rw [if_neg (by omega), gd_pos (by rw [inb_nI (by omega)]; omega), nI_clamp (by omega)]; rfl
  | succ d =>
    obtain ⟨k, a, m, T, h0, h1, h2, h3, h4, rfl, h5⟩ := hl
    have ei : nI k * 400 + nI a = nI (400 * k + a) := by rw [nI_n, nI_mul, nI_add, Nat.mul_comm]
    rw [if_pos (by omega), gd_pos (by rw [inb_nI (by omega)]; omega), h1, h2, gd_pos (by rw [inb_nI (by omega)]; omega), nI_clamp (by omega), h3, if_nIl (by omega) (by omega), ei]
    cases m with
    | zero => rw [if_pos (by omega)]; rfl
    | succ m => rw [if_neg (by omega), gd_pos (by rw [inb_nI (by omega)]; omega), nI_clamp (by omega)]; rfl
theorem s_pass {M : im_M} {d : Nat} {b : Int32} {T : List Int32} (q : CS M d (b :: T)) (hb : ¬ b = -1) : ed (f_HTape_pass M) (fun r => CS r d T ∧ fr (2 ^ 8) [] M r) := by
  obtain ⟨hd, e6, hl⟩ := q
  unfold f_HTape_pass
  rw [e6, gd_pos (by rw [inb_nI (by omega)]; omega), gd_pos (by rw [inb_nI (by omega)]; omega), nI_clamp (by omega)]
  refine ed_mk ⟨⟨hd, e6, ?_⟩, fr_I (by decide) fr_refl⟩
  have v8 : im_i (im_setI M 8 d (im_i M 8 d + 1)) 8 d = im_i M 8 d + 1 := by rw [mi_I, if_pos rfl, if_pos rfl]
  cases d with
  | zero =>
    obtain ⟨a, m, h1, h2, h3, h4⟩ := hl
    cases m with
    | zero => cases h4
    | succ m =>
      have h4 : b :: T = (im_i M 2 a &&& 255) :: bl (fun p => im_i M 2 p &&& 255) (a + 1) m := h4
      refine ⟨a + 1, m, ?_, ?_, by omega, (List.cons.inj h4).2⟩
      · rw [v8, h1]; exact nI_add a 1
      · show im_i M 1 1 = _
        rw [h2]
        congr 1
        omega
  | succ d =>
    obtain ⟨k, a, m, U, h0, h1, h2, h3, h4, h5, h6⟩ := hl
    cases m with
    | zero => exact absurd (List.cons.inj h5).1 hb
    | succ m =>
      have h5 : b :: T = (im_i M 3 (400 * k + a) &&& 255) :: (bl (fun p => im_i M 3 (400 * k + p) &&& 255) (a + 1) m ++ (-1) :: U) := h5
      refine ⟨k, a + 1, m, U, h0, h1, ?_, ?_, by omega, (List.cons.inj h5).2, LV_c (M := M) (M' := im_setI M 8 (d + 1) (im_i M 8 (d + 1) + 1)) rfl rfl rfl rfl d U (fun j hj => ⟨?_, rfl⟩) h6⟩
      · rw [v8, h2]; exact nI_add a 1
      · show im_i M 4 k = _
        rw [h3]
        congr 1
        omega
      · rw [mi_I, if_pos rfl, if_neg (by omega)]
theorem s_peek {M : im_M} {S : List Int32} (q : MS M S) : f_MScriptRows_peek M = some (nxB S) := by
  obtain ⟨h8, hl, hp⟩ := q
  unfold f_MScriptRows_peek
  have c0 : (nI S.length = 0) = (S.length = 0) := nIe (c := 0) (by omega) (by omega)
  rw [h8]
  simp only [c0]
  cases S with
  | nil => rw [if_neg (fun z => z rfl)]; rfl
  | cons b T =>
    have l : (b :: T).length = T.length + 1 := rfl
    have e : nI (b :: T).length - 1 = nI T.length := by rw [l]; exact nI_m1 (by omega)
    rw [if_pos (by omega), e, gd_pos (by rw [inb_nI (by omega)]; omega), nI_clamp (by omega), hp.1]
    rfl
theorem s_nextM {M : im_M} {S : List Int32} (q : MS M S) : ed (f_MScriptRows_next M) (fun r => r.1 = nxB S ∧ MS r.2 S.tail ∧ fr 0 [(71, 8)] M r.2) := by
  unfold f_MScriptRows_next
  rw [s_peek q, bd1_s]
  obtain ⟨h8, hl, hp⟩ := q
  refine ed_mk ⟨rfl, ?_, fr_F (by decide) fr_refl⟩
  have c0 : (nI S.length = 0) = (S.length = 0) := nIe (c := 0) (by omega) (by omega)
  have f0 : ∀ v, fr 0 [(71, 8)] M (im_setI M 71 8 v) := fun v => fr_F (by decide) fr_refl
  cases S with
  | nil =>
    refine ⟨?_, by show (0 : Nat) ≤ 5800; omega, trivial⟩
    show (if ¬ im_i M 71 8 = 0 then _ else _) = _
    rw [h8]
    rfl
  | cons b T =>
    have l : (b :: T).length = T.length + 1 := rfl
    refine ⟨?_, by show T.length ≤ 5800; omega, PD_c (M := M) (fun p _ => rfl) hp.2⟩
    show (if ¬ im_i M 71 8 = 0 then im_i M 71 8 - 1 else 0) = nI T.length
    rw [h8]
    simp only [c0]
    rw [if_pos (by omega), l]
    exact nI_m1 (by omega)
/-- a byte at the head that is none of the marks is passed by both -/
theorem CS_head {M : im_M} {d : Nat} {S : List Int32} (q : CS M d S) : S = [] ∧ d = 0 ∨ (∃ T e, d = e + 1 ∧ S = (-1) :: T ∧ LV M e T) ∨ ∃ n T, n < 256 ∧ S = nI n :: T := by
  obtain ⟨hd, e6, hl⟩ := q
  cases d with
  | zero =>
    obtain ⟨a, m, h1, h2, h3, rfl⟩ := hl
    cases m with
    | zero => exact Or.inl ⟨rfl, rfl⟩
    | succ m =>
      obtain ⟨n, hn, e⟩ := by255 (x := im_i M 2 a)
      exact Or.inr (Or.inr ⟨n, bl (fun p => im_i M 2 p &&& 255) (a + 1) m, hn, by rw [← e]; rfl⟩)
  | succ d =>
    obtain ⟨k, a, m, T, h0, h1, h2, h3, h4, rfl, h5⟩ := hl
    cases m with
    | zero => exact Or.inr (Or.inl ⟨T, d, rfl, rfl, h5⟩)
    | succ m =>
      obtain ⟨n, hn, e⟩ := by255 (x := im_i M 3 (400 * k + a))
      exact Or.inr (Or.inr ⟨n, bl (fun p => im_i M 3 (400 * k + p) &&& 255) (a + 1) m ++ (-1) :: T, hn, by rw [← e]; rfl⟩)
