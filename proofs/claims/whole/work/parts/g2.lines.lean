/-! LINES OF A BLOCK -/
def pe (nl : Nat → Bool) (n from_ : Nat) : Nat := match fdp (fun i => nl (from_ + i) = true) (n - from_) with
  | some i => from_ + i
  | none => n
def lbk (bk : Nat → Bool) (from_ c : Nat) : Option Nat := match fdp (fun i => bk (from_ + c - i) = true) (c + 1) with
  | some i => some (from_ + c - i)
  | none => none
def lnE (nl bk : Nat → Bool) (n c from_ : Nat) : Nat × Nat := if pe nl n from_ - from_ ≤ c then (pe nl n from_, pe nl n from_ + 1) else match lbk bk from_ c with
  | some p => (p, p + 1)
  | none => (from_ + c, from_ + c)
def cutS (nl bk : Nat → Bool) (n c : Nat) : Nat → Nat → List (Nat × Nat)
  | 0, _ => []
  | k + 1, a => if n < a then [] else (a, (lnE nl bk n c a).1 - a) :: cutS nl bk n c k (lnE nl bk n c a).2
theorem pe_b {nl : Nat → Bool} {n a : Nat} (h : a ≤ n) : a ≤ pe nl n a ∧ pe nl n a ≤ n := by
  unfold pe
  cases e : fdp (fun i => nl (a + i) = true) (n - a) with
  | none => exact ⟨h, Nat.le_refl _⟩
  | some i =>
    have := (fdp_some _ _ e).1
    show a ≤ a + i ∧ a + i ≤ n
    omega
theorem lbk_b {bk : Nat → Bool} {a c p : Nat} (h : lbk bk a c = some p) : a ≤ p ∧ p ≤ a + c := by
  unfold lbk at h
  cases e : fdp (fun i => bk (a + c - i) = true) (c + 1) with
  | none => rw [e] at h; cases h
  | some i =>
    rw [e] at h
    have := (fdp_some _ _ e).1
    replace h : some (a + c - i) = some p := h
    have := Option.some.inj h
    omega
theorem lnE_b {nl bk : Nat → Bool} {n c a : Nat} (h : a ≤ n) (hc : 1 ≤ c) : a ≤ (lnE nl bk n c a).1 ∧ (lnE nl bk n c a).1 ≤ n ∧ (lnE nl bk n c a).1 - a ≤ c ∧ a < (lnE nl bk n c a).2 ∧ (lnE nl bk n c a).2 ≤ n + 1 := by
  have b := pe_b (nl := nl) h
  unfold lnE
  by_cases d : pe nl n a - a ≤ c
  · rw [if_pos d]
    refine ⟨b.1, b.2, d, ?_, ?_⟩
    · show a < pe nl n a + 1
      omega
    · show pe nl n a + 1 ≤ n + 1
      omega
  · rw [if_neg d]
    cases e : lbk bk a c with
    | none =>
      show a ≤ a + c ∧ a + c ≤ n ∧ a + c - a ≤ c ∧ a < a + c ∧ a + c ≤ n + 1
      omega
    | some p =>
      have := lbk_b e
      show a ≤ p ∧ p ≤ n ∧ p - a ≤ c ∧ a < p + 1 ∧ p + 1 ≤ n + 1
      omega
theorem cutS_in {nl bk : Nat → Bool} {n c : Nat} (hc : 1 ≤ c) : ∀ {k a : Nat} {x : Nat × Nat}, x ∈ cutS nl bk n c k a → x.1 + x.2 ≤ n ∧ x.2 ≤ c := by
  intro k
  induction k with
  | zero => intro a x h; exact absurd h (List.not_mem_nil)
  | succ k ih =>
    intro a x h
    replace h : x ∈ (if n < a then [] else (a, (lnE nl bk n c a).1 - a) :: cutS nl bk n c k (lnE nl bk n c a).2) := h
    by_cases d : n < a
    · rw [if_pos d] at h; exact absurd h (List.not_mem_nil)
    · rw [if_neg d] at h
      rcases List.mem_cons.mp h with e | e
      · have := lnE_b (nl := nl) (bk := bk) (n := n) (c := c) (a := a) (by omega) hc
        rw [e]
        show a + ((lnE nl bk n c a).1 - a) ≤ n ∧ (lnE nl bk n c a).1 - a ≤ c
        omega
      · exact ih e
theorem cutS_stop {nl bk : Nat → Bool} {n c k a : Nat} (h : n < a) : cutS nl bk n c k a = [] := by
  cases k with
  | zero => rfl
  | succ k =>
    show (if n < a then [] else _) = _
    rw [if_pos h]
/-- what the class's bytes say -/
def nlC (M : im_M) (p : Nat) : Bool := decide (im_i M 25 p = 10)
def bkC (M : im_M) (p : Nat) : Bool := decide (im_i M 25 p = 32)
theorem s_endOfPiece {M : im_M} {n a : Nat} (h8 : im_i M 23 8 = nI n) (hn : n ≤ 200) (ha : a ≤ n) : f_HField_endOfPiece (nI a) M = some (nI (pe (nlC M) n a)) := by
  unfold f_HField_endOfPiece pe
  have bd : ∀ i, i < n - a → f_HField_endOfPiece_L2 M (nI (a + i)) = if nlC M (a + i) = true then some (.inr (.inr (nI (a + i)))) else some (.inl (nI (a + (i + 1)))) := by
    intro i hi
    unfold f_HField_endOfPiece_L2 nlC
    rw [h8, if_nIl (by omega) (by omega), if_neg (by omega), gd_pos (by rw [inb_nI (by omega)]; omega), nI_clamp (by omega)]
    by_cases c : im_i M 25 (a + i) = 10
    · rw [if_neg (fun z => z c), if_pos (decide_eq_true c)]
    · rw [if_pos c, if_neg (by rw [decide_eq_true_eq]; exact c)]
      exact congrArg (fun z => some (Sum.inl z)) (nI_add _ 1)
  have en : f_HField_endOfPiece_L2 M (nI (a + (n - a))) = some (.inr (.inl ())) := by
    unfold f_HField_endOfPiece_L2
    rw [h8, if_nIl (by omega) (by omega), if_pos (by omega)]
  cases e : fdp (fun i => nlC M (a + i) = true) (n - a) with
  | none =>
    have hn := fdp_none _ e
    have : lp (uc1 (f_HField_endOfPiece_L2 M)) (nI a) = some (.inl ()) := lp_row (b := uc1 (f_HField_endOfPiece_L2 M)) (fun k => nI (a + k)) (n - a) (fun k hk => by show f_HField_endOfPiece_L2 M (nI (a + k)) = _; rw [bd k hk, if_neg (hn k hk)]) en
    rw [this]
    show some (im_i M 23 8) = _
    rw [h8]
  | some j =>
    obtain ⟨j1, j2, j3⟩ := fdp_some _ _ e
    have : lp (uc1 (f_HField_endOfPiece_L2 M)) (nI a) = some (.inr (nI (a + j))) := lp_row (b := uc1 (f_HField_endOfPiece_L2 M)) (fun k => nI (a + k)) j (fun k hk => by show f_HField_endOfPiece_L2 M (nI (a + k)) = _; rw [bd k (by omega), if_neg (j3 k hk)]) (by show f_HField_endOfPiece_L2 M (nI (a + j)) = _; rw [bd j j1, if_pos j2])
    rw [this]
    rfl
theorem nI_dn {a c i : Nat} (h : i ≤ a + c) : nI (a + c) - nI i = nI (a + c - i) := nI_sb h
theorem s_lastBlank {M : im_M} {a c : Nat} (h : a + c < 200) : f_HField_lastBlank (nI a) (nI (a + c)) M = some (match lbk (bkC M) a c with | some p => nI p | none => -1) := by
  unfold f_HField_lastBlank lbk
  have e7 : ∀ i, nI (a + c) - nI i + (-1) = nI (a + c) - nI (i + 1) := fun i => by
    have : (-1 : Int32) = iZ (-1) := rfl
    rw [iZ_nI, iZ_nI, this, iZ_nI, iZ_sub, iZ_add, iZ_sub]
    congr 1
    omega
  have bd : ∀ i, i < c + 1 → f_HField_lastBlank_L2 (nI a) M (nI (a + c) - nI i) = if bkC M (a + c - i) = true then some (.inr (.inr (nI (a + c - i)))) else some (.inl (nI (a + c) - nI (i + 1))) := by
    intro i hi
    unfold f_HField_lastBlank_L2 bkC
    rw [← e7, nI_dn (by omega), if_nIlt (by omega) (by omega), if_neg (by omega), gd_pos (by rw [inb_nI (by omega)]; omega), nI_clamp (by omega)]
    by_cases d : im_i M 25 (a + c - i) = 32
    · rw [if_neg (fun z => z d), if_pos (decide_eq_true d)]
    · rw [if_pos d, if_neg (by rw [decide_eq_true_eq]; exact d)]
  have en : f_HField_lastBlank_L2 (nI a) M (nI (a + c) - nI (c + 1)) = some (.inr (.inl ())) := by
    unfold f_HField_lastBlank_L2
    have : (nI (a + c) - nI (c + 1) < nI a) := by
      rw [iZ_nI, iZ_nI, iZ_nI, iZ_sub, iZ_lt (by omega) (by omega)]
      omega
    rw [if_pos this]
  have st : nI (a + c) - nI 0 = nI (a + c) := by rw [nI_dn (by omega), Nat.sub_zero]
  cases e : fdp (fun i => bkC M (a + c - i) = true) (c + 1) with
  | none =>
    have hn := fdp_none _ e
    have : lp (uc1 (f_HField_lastBlank_L2 (nI a) M)) (nI (a + c) - nI 0) = some (.inl ()) := lp_row (b := uc1 (f_HField_lastBlank_L2 (nI a) M)) (fun k => nI (a + c) - nI k) (c + 1) (fun k hk => by show f_HField_lastBlank_L2 (nI a) M (nI (a + c) - nI k) = _; rw [bd k hk, if_neg (hn k hk)]) en
    rw [st] at this
    rw [this]
    rfl
  | some j =>
    obtain ⟨j1, j2, j3⟩ := fdp_some _ _ e
    have : lp (uc1 (f_HField_lastBlank_L2 (nI a) M)) (nI (a + c) - nI 0) = some (.inr (nI (a + c - j))) := lp_row (b := uc1 (f_HField_lastBlank_L2 (nI a) M)) (fun k => nI (a + c) - nI k) j (fun k hk => by show f_HField_lastBlank_L2 (nI a) M (nI (a + c) - nI k) = _; rw [bd k (by omega), if_neg (j3 k hk)]) (by show f_HField_lastBlank_L2 (nI a) M (nI (a + c) - nI j) = _; rw [bd j j1, if_pos j2])
    rw [st] at this
    rw [this]
    rfl
/-- the lines that the class keeps -/
def LN (M : im_M) (L : List (Nat × Nat)) : Prop := im_i M 23 9 = nI L.length ∧ ∀ j x, j < 20 → L[j]? = some x → im_i M 26 j = nI x.1 ∧ im_i M 27 j = nI x.2
theorem s_addLine {M : im_M} {L : List (Nat × Nat)} {a b : Nat} (h : LN M L) (hl : L.length ≤ 300) : ed (f_HField_addLine (nI a) (nI b) M) (fun r => fr (2 ^ 26 ||| 2 ^ 27) [(23, 9)] M r ∧ LN r (L ++ [(a, b)])) := by
  obtain ⟨h9, hL⟩ := h
  unfold f_HField_addLine
  have c20 : ((20 : Int32) ≤ nI L.length) = (20 ≤ L.length) := nIl (x := 20) (by omega) (by omega)
  have s9 : ∀ (N : im_M) (p : Nat) (x : Int32), im_i (im_setI N 26 p x) 23 9 = im_i N 23 9 := fun _ _ _ => rfl
  have ll : (L ++ [(a, b)]).length = L.length + 1 := by simp
  rw [h9]
  simp only [c20, s9, h9]
  by_cases c : 20 ≤ L.length
  · rw [if_pos c, bd1_s]
    refine ed_mk ⟨fr_F (by decide) fr_refl, ?_, fun j x hj hx => ?_⟩
    · show im_i M 23 9 + 1 = _
      rw [h9, ll]
      exact nI_add _ 1
    · rw [List.getElem?_append_left (by omega)] at hx
      exact hL j x hj hx
  · rw [if_neg c, gd_pos (by rw [inb_nI (by omega)]; omega), gd_pos (by rw [inb_nI (by omega)]; omega), nI_clamp (by omega), bd1_s]
    refine ed_mk ⟨fr_F (by decide) (fr_I (by decide) (fr_I (by decide) fr_refl)), ?_, fun j x hj hx => ?_⟩
    · show im_i M 23 9 + 1 = _
      rw [h9, ll]
      exact nI_add _ 1
    · show (if j = L.length then nI a else im_i M 26 j) = _ ∧ (if j = L.length then nI b else im_i M 27 j) = _
      by_cases e : j = L.length
      · subst e
        rw [List.getElem?_append_right (by omega), Nat.sub_self] at hx
        have : (a, b) = x := Option.some.inj hx
        subst this
        rw [if_pos rfl, if_pos rfl]
        exact ⟨rfl, rfl⟩
      · have : j < L.length := by
          apply Classical.byContradiction
          intro z
          rw [List.getElem?_eq_none (by rw [ll]; omega)] at hx
          cases hx
        rw [List.getElem?_append_left this] at hx
        rw [if_neg e, if_neg e]
        exact hL j x hj hx
theorem s_cutLines {M : im_M} {n c kd : Nat} (h8 : im_i M 23 8 = nI n) (hn : n ≤ 200) (hk : im_i M 23 2 = nI kd) (hkd : kd ≤ 8) (hc : kd = 8 → im_i M 24 0 = nI c ∧ 1 ≤ c ∧ c ≤ 99) : ed (f_HField_cutLines M) (fun r => fr (2 ^ 26 ||| 2 ^ 27) [(23, 9)] M r ∧ LN r (if kd = 8 then cutS (nlC M) (bkC M) n c 201 0 else [])) := by
  unfold f_HField_cutLines
  have q8 : (nI kd = 8) = (kd = 8) := nIe (c := 8) (by omega) (by omega)
  apply bd1_mk
  refine ed_mono (lp_inv (fun k (s : Int32 × Int32 × im_M) => ∃ i a L, i + k = 201 ∧ s.1 = nI a ∧ s.2.1 = nI i ∧ i ≤ a ∧ a ≤ n + 1 ∧ L.length = i ∧ LN s.2.2 L ∧ fr (2 ^ 26 ||| 2 ^ 27) [(23, 9)] M s.2.2 ∧ (kd = 8 → L ++ cutS (nlC M) (bkC M) n c k a = cutS (nlC M) (bkC M) n c 201 0) ∧ (¬ kd = 8 → L = [])) (Q := fun r => fr (2 ^ 26 ||| 2 ^ 27) [(23, 9)] M r ∧ LN r (if kd = 8 then cutS (nlC M) (bkC M) n c 201 0 else [])) ?_ (k := 201) ⟨0, 0, [], by omega, rfl, rfl, by omega, by omega, rfl, ⟨rfl, fun j x _ hx => by simp at hx⟩, fr_F (by decide) fr_refl, fun _ => rfl, fun _ => rfl⟩) (fun r h => ed_mk h)
  rintro k ⟨x2, x3, M4⟩ ⟨i, a, L, hk1, e1, e2, hia, han, hL, hLN, f, hcut, hno⟩
  replace e1 : x2 = nI a := e1
  replace e2 : x3 = nI i := e2
  replace hLN : LN M4 L := hLN
  replace f : fr (2 ^ 26 ||| 2 ^ 27) [(23, 9)] M M4 := f
  subst e1 e2
  have g2 : im_i M4 23 2 = nI kd := (f.1 23 2 (by decide) (by decide)).trans hk
  have g8 : im_i M4 23 8 = nI n := (f.1 23 8 (by decide) (by decide)).trans h8
  have g25 : im_i M4 25 = im_i M 25 := fr_c f 25 (by decide) (by decide)
  show ed (f_HField_cutLines_L9 (nI a) (nI i) M4) _
  unfold f_HField_cutLines_L9
  have c200 : ((200 : Int32) < nI i) = (200 < i) := nIlt (x := 200) (by omega) (by omega)
  rw [g2, g8]
  simp only [q8, c200]
  by_cases ck : kd = 8
  · rw [if_neg (fun z => z ck), if_nIlt (by omega) (by omega)]
    obtain ⟨c1, c2, c3⟩ := hc ck
    have done : n < a → ed (some (Sum.inr M4)) (lpo (fun k (s : Int32 × Int32 × im_M) => ∃ i a L, i + k = 201 ∧ s.1 = nI a ∧ s.2.1 = nI i ∧ i ≤ a ∧ a ≤ n + 1 ∧ L.length = i ∧ LN s.2.2 L ∧ fr (2 ^ 26 ||| 2 ^ 27) [(23, 9)] M s.2.2 ∧ (kd = 8 → L ++ cutS (nlC M) (bkC M) n c k a = cutS (nlC M) (bkC M) n c 201 0) ∧ (¬ kd = 8 → L = [])) (fun r => fr (2 ^ 26 ||| 2 ^ 27) [(23, 9)] M r ∧ LN r (if kd = 8 then cutS (nlC M) (bkC M) n c 201 0 else [])) k) := fun z => by
      refine lpo_r ⟨f, ?_⟩
      rw [if_pos ck, ← hcut ck, cutS_stop z, List.append_nil]
      exact hLN
    by_cases d1 : 200 < i
    · rw [if_pos d1]
      exact done (by omega)
    · rw [if_neg d1]
      by_cases d2 : n < a
      · rw [if_pos d2]
        exact done d2
      · have g24 : im_i M4 24 0 = nI c := (f.1 24 0 (by decide) (by decide)).trans c1
        have enl : nlC M4 = nlC M := by unfold nlC; rw [g25]
        have ebk : bkC M4 = bkC M := by unfold bkC; rw [g25]
        have pb := pe_b (nl := nlC M) (n := n) (a := a) (by omega)
        have lb := lnE_b (nl := nlC M) (bk := bkC M) (n := n) (c := c) (a := a) (by omega) c2
        have h0 : Int32.toNatClampNeg 0 = 0 := rfl
        have ed1 : nI (pe (nlC M) n a) - nI a = nI (pe (nlC M) n a - a) := nI_sb pb.1
        rw [if_neg d2, s_endOfPiece g8 hn (by omega), enl, bd1_s, h0, g24, gd_pos (by decide), gd_pos (by decide), gd_pos (by decide), ed1, if_nIl (by omega) (by omega), show nI (pe (nlC M) n a) + 1 = nI (pe (nlC M) n a + 1) from nI_add _ 1, nI_add]
        have mid : (if pe (nlC M) n a - a ≤ c then some (nI (pe (nlC M) n a), nI (pe (nlC M) n a + 1)) else bd1 (f_HField_lastBlank (nI a) (nI (a + c)) M4) fun (x7 : Int32) => bd1 (if ¬ x7 = (-1) then some x7 else some (nI (a + c))) fun (y9 : Int32) => some (y9, ((if ¬ x7 = (-1) then (x7 + 1) else y9) : Int32))) = some (nI (lnE (nlC M) (bkC M) n c a).1, nI (lnE (nlC M) (bkC M) n c a).2) := by
          unfold lnE
          by_cases d3 : pe (nlC M) n a - a ≤ c
          · rw [if_pos d3, if_pos d3]
          · rw [if_neg d3, if_neg d3, s_lastBlank (by omega), ebk, bd1_s]
            cases e : lbk (bkC M) a c with
            | none =>
              show bd1 (if ¬ (-1 : Int32) = -1 then _ else _) _ = _
              rw [if_neg (fun z => z rfl), bd1_s, if_neg (fun z => z rfl)]
            | some p =>
              have := lbk_b e
              show bd1 (if ¬ nI p = -1 then some (nI p) else some (nI (a + c))) _ = _
              rw [if_pos (nI_nm1 (by omega)), bd1_s, if_pos (nI_nm1 (by omega)), show nI p + 1 = nI (p + 1) from nI_add _ 1]
        rw [mid, bd2_s, nI_sb lb.1]
        apply bd1_mk
        refine ed_mono (s_addLine (a := a) (b := (lnE (nlC M) (bkC M) n c a).1 - a) hLN (by omega)) ?_
        rintro M22 ⟨f22, h22⟩
        refine lpo_l (k - 1) (by omega) ⟨i + 1, (lnE (nlC M) (bkC M) n c a).2, L ++ [(a, (lnE (nlC M) (bkC M) n c a).1 - a)], by omega, rfl, nI_add i 1, by omega, lb.2.2.2.2, by simp [hL], h22, fr_tr f22 f, fun _ => ?_, fun z => absurd ck z⟩
        rw [← hcut ck]
        obtain ⟨k', rfl⟩ : ∃ k', k = k' + 1 := ⟨k - 1, by omega⟩
        rw [Nat.add_sub_cancel, List.append_assoc]
        show _ = L ++ (if n < a then [] else (a, (lnE (nlC M) (bkC M) n c a).1 - a) :: cutS (nlC M) (bkC M) n c k' (lnE (nlC M) (bkC M) n c a).2)
        rw [if_neg d2]
        rfl
  · rw [if_pos ck]
    refine lpo_r ⟨f, ?_⟩
    rw [if_neg ck, ← hno ck]
    exact hLN
