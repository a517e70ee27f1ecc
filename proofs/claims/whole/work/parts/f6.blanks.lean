/-! BLANKS, THE ENDS OF FORMS -/
def skB : List Int32 → List Int32
  | [] => []
  | h :: T => if ¬ h < 0 ∧ ¬ 32 < h then skB T else h :: T
def skM : List Int32 → List Int32
  | [] => []
  | h :: T => if 32 < h then h :: T else skM T
def cnE : List Int32 → Nat
  | [] => 0
  | h :: T => (if h = -1 then 1 else 0) + cnE T
def runL : List Int32 → Nat
  | [] => 0
  | h :: T => if h = -1 then 0 else runL T + 1
theorem skM_skB : ∀ {S : List Int32}, skM (skB S) = skM S := by
  intro S
  induction S with
  | nil => rfl
  | cons h T ih =>
    show skM (if ¬ h < 0 ∧ ¬ 32 < h then skB T else h :: T) = skM (h :: T)
    by_cases c : ¬ h < 0 ∧ ¬ 32 < h
    · rw [if_pos c, ih]
      show _ = if 32 < h then _ else _
      rw [if_neg c.2]
    · rw [if_neg c]
theorem bl_run {f : Nat → Int32} : ∀ {m a : Nat} {T : List Int32}, (∀ p, ¬ f p = -1) → runL (bl f a m ++ (-1) :: T) = m ∧ runL (bl f a m) = m ∧ cnE (bl f a m ++ (-1) :: T) = 1 + cnE T ∧ cnE (bl f a m) = 0 := by
  intro m
  induction m with
  | zero => intro a T _; exact ⟨rfl, rfl, rfl, rfl⟩
  | succ m ih =>
    intro a T h
    have := ih (a := a + 1) (T := T) h
    refine ⟨?_, ?_, ?_, ?_⟩
    · show (if f a = -1 then 0 else runL (bl f (a + 1) m ++ (-1) :: T) + 1) = m + 1
      rw [if_neg (h a), this.1]
    · show (if f a = -1 then 0 else runL (bl f (a + 1) m) + 1) = m + 1
      rw [if_neg (h a), this.2.1]
    · show (if f a = -1 then 1 else 0) + cnE (bl f (a + 1) m ++ (-1) :: T) = _
      rw [if_neg (h a), this.2.2.1]
      omega
    · show (if f a = -1 then 1 else 0) + cnE (bl f (a + 1) m) = _
      rw [if_neg (h a), this.2.2.2]
theorem LV_cn {M : im_M} : ∀ {d : Nat} {S : List Int32}, LV M d S → cnE S = d ∧ S.length ≤ 4096 + 401 * d := by
  intro d
  induction d with
  | zero =>
    rintro S ⟨a, m, h1, h2, h3, rfl⟩
    refine ⟨(bl_run (T := []) (fun p => by255_n)).2.2.2, ?_⟩
    rw [bl_len]
    omega
  | succ d ih =>
    rintro S ⟨k, a, m, T, h0, h1, h2, h3, h4, rfl, h5⟩
    have := ih h5
    refine ⟨?_, ?_⟩
    · rw [(bl_run (T := T) (fun p => by255_n)).2.2.1, this.1]
      omega
    · rw [List.length_append, bl_len]
      show m + (T.length + 1) ≤ _
      omega
theorem CS_run {M : im_M} {d : Nat} {S : List Int32} (q : CS M d S) : runL S ≤ 4096 := by
  obtain ⟨_, _, hl⟩ := q
  cases d with
  | zero =>
    obtain ⟨a, m, h1, h2, h3, rfl⟩ := hl
    rw [(bl_run (T := []) (fun p => by255_n)).2.1]
    omega
  | succ d =>
    obtain ⟨k, a, m, T, h0, h1, h2, h3, h4, rfl, h5⟩ := hl
    rw [(bl_run (T := T) (fun p => by255_n)).1]
    omega
theorem s_blanks {M : im_M} {d : Nat} {S : List Int32} (q : CS M d S) : ed (f_HTape_passBlanks M) (fun r => CS r d (skB S) ∧ fr (2 ^ 8) [] M r) := by
  unfold f_HTape_passBlanks
  apply bd1_mk
  refine ed_mono (lp_inv (fun k (s : Int32 × im_M) => ∃ i T, i + k = 4096 ∧ s.1 = nI i ∧ CS s.2 d T ∧ skB T = skB S ∧ i + runL T ≤ 4096 ∧ fr (2 ^ 8) [] M s.2) (Q := fun r => CS r d (skB S) ∧ fr (2 ^ 8) [] M r) ?_ (k := 4096) ⟨0, S, by omega, rfl, q, rfl, by have := CS_run q; omega, fr_refl⟩) (fun r h => ed_mk h)
  rintro k ⟨x2, M3⟩ ⟨i, T, hk, e1, q3, hs, hr, f⟩
  replace e1 : x2 = nI i := e1
  replace q3 : CS M3 d T := q3
  replace f : fr (2 ^ 8) [] M M3 := f
  subst e1
  show ed (f_HTape_passBlanks_L2 (nI i) M3) _
  unfold f_HTape_passBlanks_L2
  have c1 : ((4096 : Int32) ≤ nI i) = (4096 ≤ i) := nIl (x := 4096) (by omega) (by omega)
  simp only [c1]
  have stop : skB T = T → ed (some (Sum.inr M3)) (lpo (fun k (s : Int32 × im_M) => ∃ i T, i + k = 4096 ∧ s.1 = nI i ∧ CS s.2 d T ∧ skB T = skB S ∧ i + runL T ≤ 4096 ∧ fr (2 ^ 8) [] M s.2) (fun r => CS r d (skB S) ∧ fr (2 ^ 8) [] M r) k) := fun z => lpo_r ⟨by rw [← hs, z]; exact q3, f⟩
  by_cases c : 4096 ≤ i
  · rw [if_pos c]
    refine stop ?_
    cases T with
    | nil => rfl
    | cons h U =>
      have : runL (h :: U) = 0 := by omega
      have e : h = -1 := by
        apply Classical.byContradiction
        intro z
        have : (if h = -1 then 0 else runL U + 1) = 0 := this
        rw [if_neg z] at this
        omega
      subst e
      show (if _ then _ else _) = _
      rw [if_neg (by decide)]
  · rw [if_neg c, s_nextC q3, bd1_s, bd1_s]
    cases T with
    | nil =>
      rw [show nxB [] = -1 from rfl, if_pos (by decide)]
      exact stop rfl
    | cons h U =>
      rw [show nxB (h :: U) = h from rfl]
      have sk : skB (h :: U) = if ¬ h < 0 ∧ ¬ 32 < h then skB U else h :: U := rfl
      by_cases c0 : h < 0
      · rw [if_pos c0]
        exact stop (by rw [sk, if_neg (fun z => z.1 c0)])
      · rw [if_neg c0]
        by_cases c32 : 32 < h
        · rw [if_pos c32]
          exact stop (by rw [sk, if_neg (fun z => z.2 c32)])
        · have hm : ¬ h = -1 := fun z => c0 (by rw [z]; decide)
          obtain ⟨M6, e6, q6, f6⟩ := s_pass q3 hm
          rw [if_neg c32, e6, bd1_s]
          refine lpo_l (k - 1) (by omega) ⟨i + 1, U, by omega, nI_add i 1, q6, ?_, ?_, fr_tr f6 f⟩
          · rw [← hs, sk, if_pos ⟨c0, c32⟩]
          · have : runL (h :: U) = runL U + 1 := by
              show (if h = -1 then 0 else runL U + 1) = _
              rw [if_neg hm]
            omega
theorem s_skip {M : im_M} {S : List Int32} (q : MS M S) (h9 : im_i M 71 9 = nI (cnE S)) : ed (lp (uc1 f_MScriptRows_step_L0) M) (fun r => MS r (skM S) ∧ im_i r 71 9 = nI (cnE (skM S)) ∧ fr 0 [(71, 8), (71, 9)] M r) := by
  refine lp_inv (fun k (s : im_M) => ∃ T, T.length = k ∧ MS s T ∧ im_i s 71 9 = nI (cnE T) ∧ skM T = skM S ∧ fr 0 [(71, 8), (71, 9)] M s) ?_ (k := S.length) ⟨S, rfl, q, h9, rfl, fr_refl⟩
  rintro k M2 ⟨T, hk, q2, h9, hs, f⟩
  show ed (f_MScriptRows_step_L0 M2) _
  unfold f_MScriptRows_step_L0
  have c0 : (nI T.length ≤ 0) = (T.length ≤ 0) := nIl (c := 0) (by have := q2.2.1; omega) (by omega)
  rw [q2.1]
  simp only [c0]
  cases T with
  | nil =>
    rw [if_pos (by show (0 : Nat) ≤ 0; omega)]
    exact lpo_r ⟨by rw [← hs]; exact q2, by rw [← hs]; exact h9, f⟩
  | cons h U =>
    have l : (h :: U).length = U.length + 1 := rfl
    have sk : skM (h :: U) = if 32 < h then h :: U else skM U := rfl
    rw [if_neg (by omega), s_peek q2, bd1_s, bd1_s, show nxB (h :: U) = h from rfl]
    by_cases c32 : 32 < h
    · rw [if_pos c32]
      rw [sk, if_pos c32] at hs
      exact lpo_r ⟨by rw [← hs]; exact q2, by rw [← hs]; exact h9, f⟩
    · rw [sk, if_neg c32] at hs
      have q3 : MS (im_setI M2 71 9 (if ¬ h = -1 then im_i M2 71 9 else im_i M2 71 9 - 1)) (h :: U) := MS_fr (A := 0) (F := [(71, 9)]) (fr_F (by decide) fr_refl) (by decide +kernel) q2
      obtain ⟨⟨x6, M6⟩, e6, _, q6, f6⟩ := s_nextM q3
      replace q6 : MS M6 U := q6
      replace f6 : fr 0 [(71, 8)] (im_setI M2 71 9 (if ¬ h = -1 then im_i M2 71 9 else im_i M2 71 9 - 1)) M6 := f6
      rw [if_neg c32, e6, bd2_s]
      refine lpo_l U.length (by omega) ⟨U, rfl, q6, ?_, hs, fr_tr (fr_mono (by decide) (by decide) f6) (fr_F (by decide) f)⟩
      rw [f6.1 71 9 (by decide) (by decide)]
      show (if ¬ h = -1 then im_i M2 71 9 else im_i M2 71 9 - 1) = _
      have cn : cnE (h :: U) = (if h = -1 then 1 else 0) + cnE U := rfl
      rw [h9, cn]
      by_cases c : h = -1
      · rw [if_neg (fun z => z c), if_pos c, nI_m1 (by omega)]
        congr 1
        omega
      · rw [if_pos c, if_neg c, Nat.zero_add]
/-- a raw byte and the same without sign -/
theorem isB_eq {x : Int32} {c : Nat} (h : isB x) (hc : c < 128) : (x = nI c) = (x &&& 255 = nI c) := by
  obtain ⟨z, z1, z2, rfl⟩ := h
  have e : (255 : Int32) = iZ ((2 ^ 8 - 1 : Nat) : Int) := rfl
  rw [e, iZ_and 8 (by decide), iZ_nI, iZ_eq (by omega) (by omega), iZ_eq (by omega) (by omega)]
  show (z = (c : Int)) = (z % 256 = (c : Int))
  apply propext
  omega
theorem PD_at {M : im_M} : ∀ {S : List Int32} {k : Nat} {x : Int32}, PD M S → S[k]? = some x → im_i M 77 (S.length - 1 - k) = x := by
  intro S
  induction S with
  | nil => intro k x _ h; simp at h
  | cons h T ih =>
    intro k x q e
    cases k with
    | zero =>
      simp at e
      subst e
      show im_i M 77 (T.length + 1 - 1 - 0) = _
      rw [Nat.add_sub_cancel, Nat.sub_zero]
      exact q.1
    | succ k =>
      simp at e
      have := ih q.2 e
      show im_i M 77 (T.length + 1 - 1 - (k + 1)) = x
      rw [← this]
      congr 1
      omega
theorem bl_at {f : Nat → Int32} : ∀ {m a k : Nat}, k < m → (bl f a m)[k]? = some (f (a + k)) := by
  intro m
  induction m with
  | zero => intro a k h; omega
  | succ m ih =>
    intro a k h
    cases k with
    | zero => rfl
    | succ k =>
      show (bl f (a + 1) m)[k]? = _
      rw [ih (by omega)]
      congr 2
      omega
/-- where a form ends -/
abbrev pZ (S : List Int32) (k : Nat) : Prop := S[k]? = some 94 ∧ S[k + 1]? = some 90
