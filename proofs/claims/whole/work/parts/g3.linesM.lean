/-! LINES OF A BLOCK, REFERENCE -/
def CPY (M : im_M) (nl bk : Nat → Bool) (n : Nat) : Prop := ∀ p, p < n → (im_i M 85 p = 10 ↔ nl p = true) ∧ (im_i M 85 p = 32 ↔ bk p = true)
theorem s_pieceEnd {M : im_M} {nl bk : Nat → Bool} {n a : Nat} (h : CPY M nl bk n) (hn : n ≤ 200) (ha : a ≤ n) : f_MScriptRows_pieceEnd (nI a) (nI n) M = some (nI (pe nl n a)) := by
  unfold f_MScriptRows_pieceEnd pe
  have bd : ∀ i, i < n - a → f_MScriptRows_pieceEnd_L2 (nI n) M (nI (a + i)) = if nl (a + i) = true then some (.inr (nI (a + i))) else some (.inl (nI (a + (i + 1)))) := by
    intro i hi
    unfold f_MScriptRows_pieceEnd_L2
    rw [if_nIl (by omega) (by omega), if_neg (by omega), gd_pos (by rw [inb_nI (by omega)]; omega), nI_clamp (by omega)]
    by_cases c : im_i M 85 (a + i) = 10
    · rw [if_pos c, if_pos ((h (a + i) (by omega)).1.mp c)]
    · rw [if_neg c, if_neg (fun z => c ((h (a + i) (by omega)).1.mpr z))]
      exact congrArg (fun z => some (Sum.inl z)) (nI_add _ 1)
  have en : f_MScriptRows_pieceEnd_L2 (nI n) M (nI (a + (n - a))) = some (.inr (nI n)) := by
    unfold f_MScriptRows_pieceEnd_L2
    rw [if_nIl (by omega) (by omega), if_pos (by omega), show a + (n - a) = n by omega]
  cases e : fdp (fun i => nl (a + i) = true) (n - a) with
  | none =>
    have hn := fdp_none _ e
    have : lp (uc1 (f_MScriptRows_pieceEnd_L2 (nI n) M)) (nI a) = some (nI n) := lp_row (b := uc1 (f_MScriptRows_pieceEnd_L2 (nI n) M)) (fun k => nI (a + k)) (n - a) (fun k hk => by show f_MScriptRows_pieceEnd_L2 (nI n) M (nI (a + k)) = _; rw [bd k hk, if_neg (hn k hk)]) en
    rw [this]
    rfl
  | some j =>
    obtain ⟨j1, j2, j3⟩ := fdp_some _ _ e
    have : lp (uc1 (f_MScriptRows_pieceEnd_L2 (nI n) M)) (nI a) = some (nI (a + j)) := lp_row (b := uc1 (f_MScriptRows_pieceEnd_L2 (nI n) M)) (fun k => nI (a + k)) j (fun k hk => by show f_MScriptRows_pieceEnd_L2 (nI n) M (nI (a + k)) = _; rw [bd k (by omega), if_neg (j3 k hk)]) (by show f_MScriptRows_pieceEnd_L2 (nI n) M (nI (a + j)) = _; rw [bd j j1, if_pos j2])
    rw [this]
    rfl
theorem s_backM {M : im_M} {nl bk : Nat → Bool} {n a c : Nat} {v2 v3 v4 v5 : Int32} (h : CPY M nl bk n) (hn : n ≤ 200) (hac : a + c < n) : (bd1 (lp (uc1 (f_MScriptRows_makeLines_L73 v2 v3 v4 v5 (nI a) M)) (nI (a + c))) fun (y19 : Int32) => if nI a ≤ y19 then some (y19, (y19 + 1)) else some (nI (a + c), nI (a + c))) = some (match lbk bk a c with | some p => (nI p, nI (p + 1)) | none => (nI (a + c), nI (a + c))) := by
  unfold lbk
  have e7 : ∀ i, nI (a + c) - nI i + (-1) = nI (a + c) - nI (i + 1) := fun i => by
    have : (-1 : Int32) = iZ (-1) := rfl
    rw [iZ_nI, iZ_nI, this, iZ_nI, iZ_sub, iZ_add, iZ_sub]
    congr 1
    omega
  have bd : ∀ i, i < c + 1 → f_MScriptRows_makeLines_L73 v2 v3 v4 v5 (nI a) M (nI (a + c) - nI i) = if bk (a + c - i) = true then some (.inr (nI (a + c - i))) else some (.inl (nI (a + c) - nI (i + 1))) := by
    intro i hi
    unfold f_MScriptRows_makeLines_L73
    rw [← e7, nI_dn (by omega), if_nIlt (by omega) (by omega), if_neg (by omega), gd_pos (by rw [inb_nI (by omega)]; omega), nI_clamp (by omega)]
    by_cases d : im_i M 85 (a + c - i) = 32
    · rw [if_pos d, if_pos ((h (a + c - i) (by omega)).2.mp d)]
    · rw [if_neg d, if_neg (fun z => d ((h (a + c - i) (by omega)).2.mpr z))]
  have lt : nI (a + c) - nI (c + 1) < nI a := by
    rw [iZ_nI, iZ_nI, iZ_nI, iZ_sub, iZ_lt (by omega) (by omega)]
    omega
  have nle : ¬ nI a ≤ nI (a + c) - nI (c + 1) := by
    rw [iZ_nI, iZ_nI, iZ_nI, iZ_sub, iZ_le (by omega) (by omega)]
    omega
  have en : f_MScriptRows_makeLines_L73 v2 v3 v4 v5 (nI a) M (nI (a + c) - nI (c + 1)) = some (.inr (nI (a + c) - nI (c + 1))) := by
    unfold f_MScriptRows_makeLines_L73
    rw [if_pos lt]
  have st : nI (a + c) - nI 0 = nI (a + c) := by rw [nI_dn (by omega), Nat.sub_zero]
  cases e : fdp (fun i => bk (a + c - i) = true) (c + 1) with
  | none =>
    have hn := fdp_none _ e
    have : lp (uc1 (f_MScriptRows_makeLines_L73 v2 v3 v4 v5 (nI a) M)) (nI (a + c) - nI 0) = some (nI (a + c) - nI (c + 1)) := lp_row (b := uc1 (f_MScriptRows_makeLines_L73 v2 v3 v4 v5 (nI a) M)) (fun k => nI (a + c) - nI k) (c + 1) (fun k hk => by show f_MScriptRows_makeLines_L73 v2 v3 v4 v5 (nI a) M (nI (a + c) - nI k) = _; rw [bd k hk, if_neg (hn k hk)]) en
    rw [st] at this
    rw [this, bd1_s, if_neg nle]
  | some j =>
    obtain ⟨j1, j2, j3⟩ := fdp_some _ _ e
    have : lp (uc1 (f_MScriptRows_makeLines_L73 v2 v3 v4 v5 (nI a) M)) (nI (a + c) - nI 0) = some (nI (a + c - j)) := lp_row (b := uc1 (f_MScriptRows_makeLines_L73 v2 v3 v4 v5 (nI a) M)) (fun k => nI (a + c) - nI k) j (fun k hk => by show f_MScriptRows_makeLines_L73 v2 v3 v4 v5 (nI a) M (nI (a + c) - nI k) = _; rw [bd k (by omega), if_neg (j3 k hk)]) (by show f_MScriptRows_makeLines_L73 v2 v3 v4 v5 (nI a) M (nI (a + c) - nI j) = _; rw [bd j j1, if_pos j2])
    rw [st] at this
    rw [this, bd1_s, if_nIl (by omega) (by omega), if_pos (by omega), show nI (a + c - j) + 1 = nI (a + c - j + 1) from nI_add _ 1]
/-- line after line, whatever a line does -/
theorem s_makeLines {M : im_M} {nl bk : Nat → Bool} {f n c : Nat} (J : Nat → im_M → Prop) (hf : 16 * f + 16 ≤ 2000) (h10 : im_i M 82 (16 * f + 10) = nI n) (h1 : im_i M 82 (16 * f + 1) = nI c) (hn : n ≤ 200) (hc : 1 ≤ c ∧ c ≤ 99) (hJ : ∀ l N, J l N → CPY N nl bk n) (hs : ∀ l x N, (cutS nl bk n c 201 0)[l]? = some x → J l N → ed (f_MScriptRows_giveLine (nI f) (nI l) (nI x.1) (nI x.2) N) (J (l + 1))) (h0 : J 0 M) : ed (f_MScriptRows_makeLines (nI f) M) (J (cutS nl bk n c 201 0).length) := by
  unfold f_MScriptRows_makeLines
  have e10 : (16 : Int32) * nI f + 10 = nI (16 * f + 10) := by rw [nI_m]; exact nI_add _ 10
  have e1 : (16 : Int32) * nI f + 1 = nI (16 * f + 1) := by rw [nI_m]; exact nI_add _ 1
  rw [e10, e1, gd_pos (by rw [inb_nI (by omega)]; omega), gd_pos (by rw [inb_nI (by omega)]; omega), nI_clamp (by omega), nI_clamp (by omega), h10, h1]
  apply bd1_mk
  refine ed_mono (lp_inv (fun k (s : Int32 × Int32 × Int32 × im_M) => ∃ i a L, i + k = 202 ∧ s.1 = nI i ∧ s.2.1 = nI a ∧ i ≤ a ∧ a ≤ n + 1 ∧ L.length = i ∧ J i s.2.2.2 ∧ s.2.2.1 = (if n < a then 0 else 1) ∧ L ++ cutS nl bk n c (201 - i) a = cutS nl bk n c 201 0) (Q := J (cutS nl bk n c 201 0).length) ?_ (k := 202) ⟨0, 0, [], by omega, rfl, rfl, by omega, by omega, rfl, h0, by rw [if_neg (by omega)], rfl⟩) (fun r h => ed_mk h)
  rintro k ⟨x5, x6, x7, M8⟩ ⟨i, a, L, hk, e5, e6, hia, han, hL, hj, e7, hcut⟩
  replace e5 : x5 = nI i := e5
  replace e6 : x6 = nI a := e6
  replace e7 : x7 = if n < a then 0 else 1 := e7
  replace hj : J i M8 := hj
  subst e5 e6 e7
  show ed (f_MScriptRows_makeLines_L34 (nI f) (nI n) (nI c) (nI i) (nI a) _ M8) _
  unfold f_MScriptRows_makeLines_L34
  by_cases d : n < a
  · rw [if_pos d, if_pos rfl]
    refine lpo_r ?_
    rw [← hcut, cutS_stop d, List.append_nil, hL]
    exact hj
  · have cp := hJ i M8 hj
    have pb := pe_b (nl := nl) (n := n) (a := a) (by omega)
    have lb := lnE_b (nl := nl) (bk := bk) (n := n) (c := c) (a := a) (by omega) hc.1
    have ed1 : nI (pe nl n a) - nI a = nI (pe nl n a - a) := nI_sb pb.1
    rw [if_neg d, if_neg (show ¬ (1 : Int32) = 0 by decide), s_pieceEnd cp hn (by omega), bd1_s, ed1, if_nIl (by omega) (by omega), show nI (pe nl n a) + 1 = nI (pe nl n a + 1) from nI_add _ 1, nI_add]
    have mid : (if pe nl n a - a ≤ c then some (nI (pe nl n a), nI (pe nl n a + 1)) else bd1 (lp (uc1 (f_MScriptRows_makeLines_L73 (nI f) (nI n) (nI c) (nI i) (nI a) M8)) (nI (a + c))) fun (y19 : Int32) => if nI a ≤ y19 then some (y19, (y19 + 1)) else some (nI (a + c), nI (a + c))) = some (nI (lnE nl bk n c a).1, nI (lnE nl bk n c a).2) := by
      unfold lnE
      by_cases d3 : pe nl n a - a ≤ c
      · rw [if_pos d3, if_pos d3]
      · rw [if_neg d3, if_neg d3, s_backM cp hn (by omega)]
        cases lbk bk a c <;> rfl
    rw [mid, bd2_s, nI_sb lb.1]
    obtain ⟨m, hm⟩ : ∃ m, 201 - i = m + 1 := ⟨200 - i, by omega⟩
    have hc2 : cutS nl bk n c (201 - i) a = (a, (lnE nl bk n c a).1 - a) :: cutS nl bk n c m (lnE nl bk n c a).2 := by
      rw [hm]
      show (if n < a then [] else _) = _
      rw [if_neg d]
    have hx : (cutS nl bk n c 201 0)[i]? = some (a, (lnE nl bk n c a).1 - a) := by
      rw [← hcut, List.getElem?_append_right (by omega), hL, Nat.sub_self, hc2]
      rfl
    apply bd1_mk
    refine ed_mono (hs i (a, (lnE nl bk n c a).1 - a) M8 hx hj) ?_
    intro M30 h30
    refine lpo_l (k - 1) (by omega) ⟨i + 1, (lnE nl bk n c a).2, L ++ [(a, (lnE nl bk n c a).1 - a)], by omega, nI_add i 1, rfl, by omega, lb.2.2.2.2, by simp [hL], h30, ?_, ?_⟩
    · show (if nI n < nI (lnE nl bk n c a).2 then (0 : Int32) else 1) = _
      rw [if_nIlt (by omega) (by omega)]
    · rw [← hcut, hc2, List.append_assoc, show 201 - (i + 1) = m by omega]
      rfl
