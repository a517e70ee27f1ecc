/-! FORMS, BOTH SIDES -/
theorem s_formSize {M : im_M} {S : List Int32} (q : MS M S) : f_MScriptRows_formSize M = some (oI (fdp (pZ S) (S.length - 1))) := by
  obtain ⟨h8, hl, hp⟩ := q
  unfold f_MScriptRows_formSize
  have ix : ∀ i c : Nat, i + c < S.length → c ≤ 1 → nI S.length - nI (c + 1) - nI i = nI (S.length - 1 - (i + c)) := fun i c h1 h2 => by
    rw [nI_sb (by omega), nI_sb (by omega)]
    congr 1
    omega
  have bd : ∀ i, i < S.length - 1 → f_MScriptRows_formSize_L2 M (nI i) = if pZ S i then some (.inr (.inr (nI i))) else some (.inl (nI (i + 1))) := by
    intro i hi
    unfold f_MScriptRows_formSize_L2
    simp only [jn0]
    have e1 : nI i + 1 = nI (i + 1) := nI_add i 1
    have x0 : nI S.length - 1 - nI i = nI (S.length - 1 - (i + 0)) := ix i 0 (by omega) (by omega)
    have x1 : nI S.length - 2 - nI i = nI (S.length - 1 - (i + 1)) := ix i 1 (by omega) (by omega)
    have g0 : S[i]? = some (im_i M 77 (S.length - 1 - (i + 0))) := by
      have hx : S[i]? = some (S[i]'(by omega)) := List.getElem?_eq_getElem (by omega)
      rw [hx]
      congr 1
      exact (PD_at hp hx).symm
    have g1 : S[i + 1]? = some (im_i M 77 (S.length - 1 - (i + 1))) := by
      have hx : S[i + 1]? = some (S[i + 1]'(by omega)) := List.getElem?_eq_getElem (by omega)
      rw [hx]
      congr 1
      exact (PD_at hp hx).symm
    rw [h8, e1, if_nIl (by omega) (by omega), if_neg (by omega), x0, x1, gd_pos (by rw [inb_nI (by omega)]; omega), gd_pos (by rw [inb_nI (by omega)]; omega), nI_clamp (by omega), nI_clamp (by omega)]
    unfold pZ
    rw [g0, g1]
    by_cases c1 : im_i M 77 (S.length - 1 - (i + 0)) = 94
    · by_cases c2 : im_i M 77 (S.length - 1 - (i + 1)) = 90
      · rw [if_neg (fun z => z c1), if_neg (fun z => z c2), if_pos ⟨by rw [c1], by rw [c2]⟩]
      · rw [if_neg (fun z => z c1), if_pos c2, if_neg (fun z => c2 (Option.some.inj z.2))]
    · rw [if_pos c1, if_neg (fun z => c1 (Option.some.inj z.1))]
  refine lp_fdp (fun i hi h => by rw [bd i hi, if_pos h]) (fun i hi h => by rw [bd i hi, if_neg h]) ?_
  unfold f_MScriptRows_formSize_L2
  rw [h8, show nI (S.length - 1) + 1 = nI (S.length - 1 + 1) from nI_add _ 1, if_nIl (by omega) (by omega), if_pos (by omega)]
/-- the tape's bytes are bytes -/
def TB (M : im_M) : Prop := ∃ n : Nat, im_i M 1 1 = nI n ∧ n ≤ 4096 ∧ ∀ p, p < n → isB (im_i M 2 p)
theorem s_endOfForm {M : im_M} {S : List Int32} {a : Nat} (q : CS M 0 S) (ht : TB M) (ha : im_i M 8 0 = nI a) (ha2 : a ≤ 4096) : f_HTape_endOfForm M = some (match fdp (pZ S) (S.length - 1) with | some k => if k ≤ 400 then nI (a + k) else -1 | none => -1) := by
  obtain ⟨_, _, a', m, h1, h2, h3, rfl⟩ := q
  obtain ⟨n, t1, t2, t3⟩ := ht
  have ea : a' = a := by
    rw [h1] at ha
    exact (nI_eq (by omega) (by omega)).mp ha
  subst ea
  have en : n = a' + m := by
    rw [h2] at t1
    exact ((nI_eq (by omega) (by omega)).mp t1).symm
  subst en
  rw [bl_len]
  unfold f_HTape_endOfForm
  rw [gd_pos (by decide), show (Int32.toNatClampNeg 0) = 0 from rfl, h1]
  have e94 : (94 : Int32) = nI 94 := rfl
  have e90 : (90 : Int32) = nI 90 := rfl
  have bd : ∀ i, i < m - 1 → f_HTape_endOfForm_L7 M (nI (a' + i)) = if pZ (bl (fun p => im_i M 2 p &&& 255) a' m) i then (if i ≤ 400 then some (.inr (.inr (nI (a' + i)))) else some (.inr (.inr (-1)))) else some (.inl (nI (a' + (i + 1)))) := by
    intro i hi
    unfold f_HTape_endOfForm_L7
    simp only [jn0]
    have e1 : nI (a' + i) + 1 = nI (a' + (i + 1)) := nI_add _ 1
    have e4 : (nI (a' + i) - nI a' ≤ 400) = (i ≤ 400) := by
      rw [nI_sb (by omega), show a' + i - a' = i by omega]
      exact nIl (c := 400) (by omega) (by omega)
    rw [h2, e1, if_nIl (by omega) (by omega), if_neg (by omega), gd_pos (by rw [inb_nI (by omega)]; omega), gd_pos (by rw [inb_nI (by omega)]; omega), nI_clamp (by omega), nI_clamp (by omega), gd_pos (by decide), show (Int32.toNatClampNeg 0) = 0 from rfl, h1]
    simp only [e4]
    unfold pZ
    rw [bl_at (by omega), bl_at (by omega), e94, e90]
    have b0 := isB_eq (c := 94) (t3 (a' + i) (by omega)) (by omega)
    have b1 := isB_eq (c := 90) (t3 (a' + (i + 1)) (by omega)) (by omega)
    simp only [b0, b1]
    by_cases c1 : im_i M 2 (a' + i) &&& 255 = nI 94
    · by_cases c2 : im_i M 2 (a' + (i + 1)) &&& 255 = nI 90
      · rw [if_neg (fun z => z c1), if_neg (fun z => z c2), if_pos (show some (im_i M 2 (a' + i) &&& 255) = some (nI 94) ∧ some (im_i M 2 (a' + (i + 1)) &&& 255) = some (nI 90) from ⟨by rw [c1], by rw [c2]⟩)]
      · rw [if_neg (fun z => z c1), if_pos c2, if_neg (fun z => c2 (Option.some.inj z.2))]
    · rw [if_pos c1, if_neg (fun z => c1 (Option.some.inj z.1))]
  have end_ : f_HTape_endOfForm_L7 M (nI (a' + (m - 1))) = some (.inr (.inl ())) := by
    unfold f_HTape_endOfForm_L7
    rw [h2, show nI (a' + (m - 1)) + 1 = nI (a' + (m - 1) + 1) from nI_add _ 1, if_nIl (by omega) (by omega), if_pos (by omega)]
  cases e : fdp (pZ (bl (fun p => im_i M 2 p &&& 255) a' m)) (m - 1) with
  | none =>
    have hn := fdp_none _ e
    have : lp (uc1 (f_HTape_endOfForm_L7 M)) (nI a') = some (.inl ()) := lp_row (b := uc1 (f_HTape_endOfForm_L7 M)) (fun k => nI (a' + k)) (m - 1) (fun k hk => by show f_HTape_endOfForm_L7 M (nI (a' + k)) = _; rw [bd k hk, if_neg (hn k hk)]) end_
    rw [this]
    rfl
  | some j =>
    obtain ⟨j1, j2, j3⟩ := fdp_some _ _ e
    have : lp (uc1 (f_HTape_endOfForm_L7 M)) (nI a') = some (.inr (if j ≤ 400 then nI (a' + j) else -1)) := lp_row (b := uc1 (f_HTape_endOfForm_L7 M)) (fun k => nI (a' + k)) j (fun k hk => by show f_HTape_endOfForm_L7 M (nI (a' + k)) = _; rw [bd k (by omega), if_neg (j3 k hk)]) (by
      show f_HTape_endOfForm_L7 M (nI (a' + j)) = _
      rw [bd j j1, if_pos j2]
      split <;> rfl)
    rw [this]
    rfl
theorem bl_drop {f : Nat → Int32} : ∀ {j m a : Nat}, j ≤ m → (bl f a m).drop j = bl f (a + j) (m - j) := by
  intro j
  induction j with
  | zero => intro m a _; rfl
  | succ j ih =>
    intro m a h
    cases m with
    | zero => omega
    | succ m =>
      show (bl f (a + 1) m).drop j = _
      rw [ih (by omega)]
      congr 1
      · omega
      · omega
/-- the class keeps a form -/
theorem s_keepForm {M : im_M} {S : List Int32} {a k j : Nat} (q : CS M 0 S) (ha : im_i M 8 0 = nI a) (hk : k < 8) (hj : j + 2 ≤ S.length) (hj4 : j ≤ 400) (ha2 : a ≤ 4096) : ed (f_HTape_keepForm (nI k) (nI (a + j)) M) (fun r => CS r 0 (S.drop (j + 2)) ∧ fr (2 ^ 3 ||| 2 ^ 4 ||| 2 ^ 8) [] M r ∧ (∀ i, im_i r 4 i = if i = k then nI j else im_i M 4 i) ∧ ∀ i, im_i r 3 i = if 400 * k ≤ i ∧ i < 400 * k + j then im_i M 2 (a + (i - 400 * k)) else im_i M 3 i) := by
  obtain ⟨_, h6, a', m, h1, h2, h3, rfl⟩ := q
  have ea : a' = a := by
    rw [h1] at ha
    exact (nI_eq (by omega) (by omega)).mp ha
  subst ea
  rw [bl_len] at hj
  have e0 : (Int32.toNatClampNeg 0) = 0 := rfl
  have ek : nI k * 400 = nI (400 * k) := by rw [nI_n, nI_mul, Nat.mul_comm]
  have ej : nI (a' + j) - nI a' = nI j := by rw [nI_sb (by omega)]; congr 1; omega
  have nn : ∀ z : Nat, z < 100000 → ¬ nI z < 0 := fun z hz => by
    have : (nI z < 0) = (z < 0) := nIlt (c := 0) (by omega) (by omega)
    rw [this]; omega
  unfold f_HTape_keepForm
  rw [e0, h1, ek, ej, gd_pos (by decide), gd_pos (by decide), gd_pos (show cpy (nI a') 4096 (nI (400 * k)) 3200 (nI j) from ⟨nn _ (by omega), nn _ (by omega), nn _ (by omega), by rw [nI_clamp (by omega), nI_clamp (by omega)]; omega, by rw [nI_clamp (by omega), nI_clamp (by omega)]; omega⟩), gd_pos (by rw [inb_nI (by omega)]; omega), gd_pos (by decide), nI_clamp (by omega), nI_clamp (by omega), nI_clamp (by omega), nI_clamp (by omega)]
  refine ed_mk ⟨⟨by omega, h6, a' + (j + 2), m - (j + 2), ?_, ?_, by omega, bl_drop hj⟩, fr_I (by decide) (fr_I (by decide) (fr_A (by decide) fr_refl)), fun i => rfl, fun i => rfl⟩
  · show nI (a' + j) + 2 = _
    rw [show nI (a' + j) + 2 = nI (a' + j + 2) from nI_add _ 2, Nat.add_assoc]
  · show im_i M 1 1 = _
    rw [h2]
    congr 1
    omega
theorem drop_tl {S : List Int32} {i : Nat} : (S.drop i).tail = S.drop (i + 1) := by
  rw [List.tail_drop]
theorem drop_nx {S : List Int32} {i : Nat} (h : i < S.length) : S[i]? = some (nxB (S.drop i)) := by
  rw [List.getElem?_eq_getElem h, List.drop_eq_getElem_cons h]
  rfl
/-- the reference keeps it -/
theorem s_storeForm {M : im_M} {S : List Int32} {k j : Nat} (q : MS M S) (h0 : im_i M 78 0 = nI k) (hk : k < 8) (hf : fdp (pZ S) (S.length - 1) = some j) (hj4 : j ≤ 400) : ed (f_MScriptRows_storeForm M) (fun r => MS r (S.drop (j + 2)) ∧ fr (2 ^ 73 ||| 2 ^ 74) [(71, 8)] M r ∧ (∀ i, im_i r 74 i = if i = k then nI j else im_i M 74 i) ∧ ∀ i, (400 * k ≤ i ∧ i < 400 * k + j → S[i - 400 * k]? = some (im_i r 73 i)) ∧ (¬ (400 * k ≤ i ∧ i < 400 * k + j) → im_i r 73 i = im_i M 73 i)) := by
  obtain ⟨j1, _, _⟩ := fdp_some _ _ hf
  have hl := q.2.1
  unfold f_MScriptRows_storeForm
  rw [show (Int32.toNatClampNeg 0) = 0 from rfl, gd_pos (by decide), s_formSize q, hf, bd1_s, h0, gd_pos (by rw [inb_nI (by omega)]; omega), nI_clamp (by omega)]
  show ed (bd1 (lp (uc2 (f_MScriptRows_storeForm_L19 (nI k))) (0, im_setI M 74 k (nI j))) _) _
  apply bd1_mk
  refine ed_mono (lp_inv (fun n (s : Int32 × im_M) => ∃ i : Nat, i + n = j ∧ s.1 = nI i ∧ MS s.2 (S.drop i) ∧ fr (2 ^ 73 ||| 2 ^ 74) [(71, 8)] M s.2 ∧ (∀ x, im_i s.2 74 x = if x = k then nI j else im_i M 74 x) ∧ ∀ x, (400 * k ≤ x ∧ x < 400 * k + i → S[x - 400 * k]? = some (im_i s.2 73 x)) ∧ (¬ (400 * k ≤ x ∧ x < 400 * k + i) → im_i s.2 73 x = im_i M 73 x)) (Q := fun r => MS r (S.drop j) ∧ fr (2 ^ 73 ||| 2 ^ 74) [(71, 8)] M r ∧ (∀ x, im_i r 74 x = if x = k then nI j else im_i M 74 x) ∧ ∀ x, (400 * k ≤ x ∧ x < 400 * k + j → S[x - 400 * k]? = some (im_i r 73 x)) ∧ (¬ (400 * k ≤ x ∧ x < 400 * k + j) → im_i r 73 x = im_i M 73 x)) ?_ (k := j) ⟨0, by omega, rfl, MS_fr (A := 2 ^ 74) (F := []) (fr_I (by decide) fr_refl) (by decide +kernel) q, fr_I (by decide) fr_refl, fun x => rfl, fun x => ⟨fun z => by omega, fun _ => rfl⟩⟩) ?_
  · rintro n ⟨x4, M5⟩ ⟨i, hi, e1, q5, f5, g74, g73⟩
    replace e1 : x4 = nI i := e1
    replace q5 : MS M5 (S.drop i) := q5
    replace f5 : fr (2 ^ 73 ||| 2 ^ 74) [(71, 8)] M M5 := f5
    replace g74 : ∀ x, im_i M5 74 x = if x = k then nI j else im_i M 74 x := g74
    replace g73 : ∀ x, (400 * k ≤ x ∧ x < 400 * k + i → S[x - 400 * k]? = some (im_i M5 73 x)) ∧ (¬ (400 * k ≤ x ∧ x < 400 * k + i) → im_i M5 73 x = im_i M 73 x) := g73
    subst e1
    show ed (f_MScriptRows_storeForm_L19 (nI k) (nI i) M5) _
    unfold f_MScriptRows_storeForm_L19
    rw [gd_pos (by rw [inb_nI (by omega)]; omega), nI_clamp (by omega), g74 k, if_pos rfl, if_nIl (by omega) (by omega)]
    by_cases c : j ≤ i
    · rw [if_pos c]
      obtain rfl : i = j := by omega
      exact lpo_r ⟨q5, f5, g74, g73⟩
    · obtain ⟨⟨x6, M6⟩, e6, v6, q6, f6⟩ := s_nextM q5
      replace v6 : x6 = nxB (S.drop i) := v6
      replace q6 : MS M6 (S.drop i).tail := q6
      replace f6 : fr 0 [(71, 8)] M5 M6 := f6
      have ei : (400 : Int32) * nI k + nI i = nI (400 * k + i) := by rw [nI_m, nI_add]
      rw [if_neg c, e6, bd2_s, ei, gd_pos (by rw [inb_nI (by omega)]; omega), nI_clamp (by omega)]
      refine lpo_l (n - 1) (by omega) ⟨i + 1, by omega, nI_add i 1, MS_fr (A := 2 ^ 73) (F := []) (fr_I (by decide) fr_refl) (by decide +kernel) (by rw [drop_tl] at q6; exact q6), fr_I (by decide) (fr_tr (fr_mono (by decide) (by decide) f6) f5), fun x => ?_, fun x => ⟨fun z => ?_, fun z => ?_⟩⟩
      · show im_i M6 74 x = _
        rw [f6.1 74 x (by decide) (by simp)]
        exact g74 x
      · show S[x - 400 * k]? = some (if x = 400 * k + i then x6 else im_i M6 73 x)
        by_cases e : x = 400 * k + i
        · rw [if_pos e, e, Nat.add_sub_cancel_left, v6]
          exact drop_nx (by omega)
        · rw [if_neg e, f6.1 73 x (by decide) (by simp)]
          exact (g73 x).1 (by omega)
      · show (if x = 400 * k + i then x6 else im_i M6 73 x) = _
        rw [if_neg (by omega), f6.1 73 x (by decide) (by simp)]
        exact (g73 x).2 (by omega)
  · rintro M7 ⟨q7, f7, g74, g73⟩
    have l7 : (S.drop j).length = S.length - j := List.length_drop
    have hd2 : S.drop (j + 2) = ((S.drop j).tail).tail := by rw [drop_tl, drop_tl]
    refine ed_mk ⟨⟨?_, by rw [List.length_drop]; omega, ?_⟩, fr_F (by decide) f7, g74, g73⟩
    · show im_i M7 71 8 - 2 = _
      rw [q7.1, l7, List.length_drop, show nI (S.length - j) - 2 = nI (S.length - j - 2) from nI_sm 2 (by show 2 ≤ _; omega)]
      congr 1
    · have p7 := q7.2.2
      have u : PD M7 (S.drop (j + 2)) := by
        rw [hd2]
        have : ∀ L : List Int32, PD M7 L → PD M7 L.tail := fun L h => by
          cases L with
          | nil => exact h
          | cons a L => exact h.2
        exact this _ (this _ p7)
      exact PD_c (M := M7) (fun p _ => rfl) u
