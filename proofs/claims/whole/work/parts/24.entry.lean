/-! THE WORLD AT THE LAW'S ENTRY; THE CLAIM OUT OF A RUN OF THE LAW -/
theorem tb_nest : ∀ w ∈ [Cond.methodLinkNest "LabelHouse" 9 ⟨"LabelHouse$Tape", "<init>", "()V"⟩ "LabelHouse", Cond.methodLinkNest "LabelHouse" 36 ⟨"LabelHouse$Sheet", "<init>", "()V"⟩ "LabelHouse", Cond.methodLinkNest "LabelHouse" 43 ⟨"LabelHouse$Bars", "<init>", "()V"⟩ "LabelHouse", Cond.methodLinkNest "LabelHouse" 50 ⟨"LabelHouse$Grid", "<init>", "()V"⟩ "LabelHouse", Cond.methodLinkNest "LabelHouse$Grid" 11 ⟨"LabelHouse$Segments", "<init>", "()V"⟩ "LabelHouse", Cond.methodLinkNest "LabelHouse$Setter" 43 ⟨"LabelHouse$Field", "<init>", "()V"⟩ "LabelHouse"], w ∈ lw_tbl := fun w hw => tb_has_mem (List.all_eq_true.mp (by decide +kernel : [Cond.methodLinkNest "LabelHouse" 9 ⟨"LabelHouse$Tape", "<init>", "()V"⟩ "LabelHouse", Cond.methodLinkNest "LabelHouse" 36 ⟨"LabelHouse$Sheet", "<init>", "()V"⟩ "LabelHouse", Cond.methodLinkNest "LabelHouse" 43 ⟨"LabelHouse$Bars", "<init>", "()V"⟩ "LabelHouse", Cond.methodLinkNest "LabelHouse" 50 ⟨"LabelHouse$Grid", "<init>", "()V"⟩ "LabelHouse", Cond.methodLinkNest "LabelHouse$Grid" 11 ⟨"LabelHouse$Segments", "<init>", "()V"⟩ "LabelHouse", Cond.methodLinkNest "LabelHouse$Setter" 43 ⟨"LabelHouse$Field", "<init>", "()V"⟩ "LabelHouse"].all (fun w => tb_has w lw_tbl) = true) w hw)
theorem tb_ad_of {z : Nat} {f : Nat → Nat} : ∀ i, i < 1000000 → (fun i : Nat => if i < 1000000 then z + i else f i) i = z + i := fun i h => if_pos h
theorem lw_flag {s : State} {b : Nat} (hts : ∀ w ∈ lw_tbl, w.before #[Value.ref b] s = true) (hgv : (Jvm.Cond.and given_1 narrow_1).before #[Value.ref b] s = true) : ∃ (f : Int32) (t0 : Nat), va_Z "jdk/internal/util/Preconditions" "SIOOBE_FORMATTER" "Ljava/util/function/BiFunction;" (if f = 0 then .null else .ref t0) (fun q => s.heap.size ≤ q) s s.heap := by
  have hf : ∀ w ∈ lw_flat, w.before #[Value.ref b] s = true := flat_of_before _ hgv
  have hA : ∀ a : Nat, a < s.heap.size → ¬ (fun q : Nat => s.heap.size ≤ q) a := fun a h => Nat.not_le.mpr h
  rcases va_Zqof (C := "jdk/internal/util/Preconditions") (n := "SIOOBE_FORMATTER") (d := "Ljava/util/function/BiFunction;") (hts _ (tb_has_mem (by decide +kernel))) (hts _ (tb_has_mem (by decide +kernel))) (hf _ (tb_has_mem (by decide +kernel))) hA with h | ⟨t, h⟩
  · exact ⟨0, 0, by rw [if_pos rfl]; exact h⟩
  · exact ⟨1, t, by rw [if_neg (by decide)]; exact h⟩
set_option maxHeartbeats 4000000 in
theorem lw_world {p : Program} {s : State} {m : MethodId} {meth : Method} {c : Code} {b L : Nat} {xs : Nat → Int32} {tff : Nat} (hz : va_Z "jdk/internal/util/Preconditions" "SIOOBE_FORMATTER" "Ljava/util/function/BiFunction;" (if xs 1000000000 = 0 then .null else .ref tff) (fun q => s.heap.size ≤ q) s s.heap) (C0 : lw_At p s m meth c b L xs) : ∃ (D : va_G) (cy : Nat → ClassId) (ad : Nat → Nat), (∀ i, i < 1000000 → ad i = s.heap.size + i) ∧ ad 5000000 = b ∧ va_K D tb_cl (im_tys cy) s ∧ im_XX (tb_G L xs) ad s.heap.size s s.heap ∧ im_Y (tb_G L xs) s ∧ im_ZE tb_EW tb_NC s.heap.size s s.heap := by
  obtain ⟨-, -, -, -, -, hts, hX, hb, -, hgv⟩ := C0
  have hf : ∀ w ∈ lw_flat, w.before #[Value.ref b] s = true := flat_of_before _ hgv
  have hA : ∀ a : Nat, a < s.heap.size → ¬ (fun q : Nat => s.heap.size ≤ q) a := fun a h => Nat.not_le.mpr h
  have hW : ∀ w ∈ tb_WS, w.before #[Value.ref b] s = true := fun w hw => hts w (List.mem_filter.mp hw).1
  have hI : ∀ c ∈ tb_icl, (Cond.initialized (tb_nm c)).before #[Value.ref b] s = true := fun c hc => hW _ (tb_inis _ (List.mem_map_of_mem (f := fun c => Cond.initialized (tb_nm c)) hc))
  obtain ⟨D, hD⟩ := tb_classes hW
  obtain ⟨cy, hcy⟩ := tb_arrays hW
  obtain ⟨t0, e0, T0⟩ := tb_at_ev (A := fun q : Nat => s.heap.size ≤ q) (fun w hw => hf w (tb_xs0_at w hw)) (by decide +kernel) hA
  obtain ⟨t1, e1, T1⟩ := tb_at_ev (A := fun q : Nat => s.heap.size ≤ q) (fun w hw => hf w (tb_xs1_at w hw)) (by decide +kernel) hA
  obtain ⟨t2, e2, T2⟩ := tb_at_ev (A := fun q : Nat => s.heap.size ≤ q) (fun w hw => hf w (tb_xs2_at w hw)) (by decide +kernel) hA
  obtain ⟨t3, e3, T3⟩ := tb_at_ev (A := fun q : Nat => s.heap.size ≤ q) (fun w hw => hf w (tb_xs3_at w hw)) (by decide +kernel) hA
  obtain ⟨t4, e4, T4⟩ := tb_at_ev (A := fun q : Nat => s.heap.size ≤ q) (fun w hw => hf w (tb_xs4_at w hw)) (by decide +kernel) hA
  obtain ⟨t5, e5, T5⟩ := tb_at_ev (A := fun q : Nat => s.heap.size ≤ q) (fun w hw => hf w (tb_xs5_at w hw)) (by decide +kernel) hA
  obtain ⟨t6, e6, T6⟩ := tb_at_ev (A := fun q : Nat => s.heap.size ≤ q) (fun w hw => hf w (tb_xs6_at w hw)) (by decide +kernel) hA
  obtain ⟨t7, e7, T7⟩ := tb_at_ev (A := fun q : Nat => s.heap.size ≤ q) (fun w hw => hf w (tb_xs7_at w hw)) (by decide +kernel) hA
  obtain ⟨t8, e8, T8⟩ := tb_at_ev (A := fun q : Nat => s.heap.size ≤ q) (fun w hw => hf w (tb_xs8_at w hw)) (by decide +kernel) hA
  obtain ⟨t9, e9, T9⟩ := tb_at_ev (A := fun q : Nat => s.heap.size ≤ q) (fun w hw => hf w (tb_xs9_at w hw)) (by decide +kernel) hA
  obtain ⟨t10, e10, T10⟩ := tb_at_ev (A := fun q : Nat => s.heap.size ≤ q) (fun w hw => hf w (tb_xs10_at w hw)) (by decide +kernel) hA
  obtain ⟨t11, e11, T11⟩ := tb_at_ev (A := fun q : Nat => s.heap.size ≤ q) (fun w hw => hf w (tb_xs11_at w hw)) (by decide +kernel) hA
  obtain ⟨t12, e12, T12⟩ := tb_at_ev (A := fun q : Nat => s.heap.size ≤ q) (fun w hw => hf w (tb_xs12_at w hw)) (by decide +kernel) hA
  obtain ⟨t13, e13, T13⟩ := tb_at_ev (A := fun q : Nat => s.heap.size ≤ q) (fun w hw => hf w (tb_xs13_at w hw)) (by decide +kernel) hA
  obtain ⟨t14, e14, T14⟩ := tb_at_ev (A := fun q : Nat => s.heap.size ≤ q) (fun w hw => hf w (tb_xs14_at w hw)) (by decide +kernel) hA
  obtain ⟨v0, ev0, V0⟩ := tb_at_ev (A := fun q : Nat => s.heap.size ≤ q) (fun w hw => hf w (tb_by0_at w hw)) (by decide +kernel) hA
  have hex0 : (Cond.exactly (.string "LabelHouse$Setter" 91) "java/lang/String").before #[Value.ref b] s = true := hf _ (tb_by0_w _ (by simp))
  have hco0 : (Cond.eq (.field (.string "LabelHouse$Setter" 91) "java/lang/String" "coder" "B") (.int 0)).before #[Value.ref b] s = true := hf _ (tb_by0_w _ (by simp))
  obtain ⟨k0, -, -, -, ek0, -⟩ := Cond.exactly_spec (args := #[Value.ref b]) (first := s) (o := none) (s := s) (idx := []) (t := .string "LabelHouse$Setter" 91) (cls := "java/lang/String") hex0
  obtain ⟨v1, ev1, V1⟩ := tb_at_ev (A := fun q : Nat => s.heap.size ≤ q) (fun w hw => hf w (tb_by1_at w hw)) (by decide +kernel) hA
  have hex1 : (Cond.exactly (.string "LabelHouse$Segments" 42) "java/lang/String").before #[Value.ref b] s = true := hf _ (tb_by1_w _ (by simp))
  have hco1 : (Cond.eq (.field (.string "LabelHouse$Segments" 42) "java/lang/String" "coder" "B") (.int 0)).before #[Value.ref b] s = true := hf _ (tb_by1_w _ (by simp))
  obtain ⟨k1, -, -, -, ek1, -⟩ := Cond.exactly_spec (args := #[Value.ref b]) (first := s) (o := none) (s := s) (idx := []) (t := .string "LabelHouse$Segments" 42) (cls := "java/lang/String") hex1
  let f : Nat → Nat := fun i => if i = 5000000 then b else if i = 4000000 then tff else if i = 1000000 then t0 else if i = 1000001 then t1 else if i = 1000002 then t2 else if i = 1000003 then t3 else if i = 1000004 then t4 else if i = 1000005 then t5 else if i = 1000006 then t6 else if i = 1000007 then t7 else if i = 1000008 then t8 else if i = 1000009 then t9 else if i = 1000010 then t10 else if i = 1000011 then t11 else if i = 1000012 then t12 else if i = 1000013 then t13 else if i = 1000014 then t14 else if i = 2000000 then k0 else if i = 3000000 then v0 else if i = 2000001 then k1 else if i = 3000001 then v1 else 0
  let ad : Nat → Nat := fun i => if i < 1000000 then s.heap.size + i else f i
  refine ⟨D, cy, ad, tb_ad_of, rfl, ⟨hD, hcy⟩, ⟨?_, ?_, ?_, ?_, ?_⟩, ?_, ?_⟩
  · intro ow idx v h
    have h : tb_gT xs ow idx = some v := h
    unfold tb_gT at h
    by_cases hq : ow = 19 ∧ idx = 1053
    · rw [if_pos hq] at h
      obtain ⟨rfl, rfl⟩ := hq
      cases h
      refine ⟨_, _, _, tb_ff_ok, ?_⟩
      have e : im_v ad (if xs 1000000000 = 0 then Value.null else .ref 4000000) = (if xs 1000000000 = 0 then .null else .ref tff) := by split <;> rfl
      rw [e]
      exact hz
    rw [if_neg hq] at h
    have hm : (ow, idx, v) ∈ tb_gl := tb_find_mem h
    simp only [tb_gl, List.mem_cons, List.not_mem_nil, or_false, Prod.mk.injEq] at hm
    rcases hm with ⟨rfl, rfl, rfl⟩ | ⟨rfl, rfl, rfl⟩ | ⟨rfl, rfl, rfl⟩ | ⟨rfl, rfl, rfl⟩ | ⟨rfl, rfl, rfl⟩ | ⟨rfl, rfl, rfl⟩ | ⟨rfl, rfl, rfl⟩ | ⟨rfl, rfl, rfl⟩ | ⟨rfl, rfl, rfl⟩ | ⟨rfl, rfl, rfl⟩ | ⟨rfl, rfl, rfl⟩ | ⟨rfl, rfl, rfl⟩ | ⟨rfl, rfl, rfl⟩ | ⟨rfl, rfl, rfl⟩ | ⟨rfl, rfl, rfl⟩ | ⟨rfl, rfl, rfl⟩
    · exact ⟨"java/lang/String", "COMPACT_STRINGS", "Z", tb_gw_ok (Cond.fieldLink "java/lang/String" 38 "java/lang/String" "COMPACT_STRINGS" "Z") (by simp), va_Zof (hts _ (tb_ls_ok (Cond.laysStatic "java/lang/String" "COMPACT_STRINGS" "Z") (by simp))) (hI 19 (by decide)) (va_eqt (hf _ tb_cs_ok)) hA⟩
    · exact ⟨"LabelHouse$Setter", "RANGES", "[I", tb_gw_ok (Cond.fieldLink "LabelHouse$Setter" 134 "LabelHouse$Setter" "RANGES" "[I") (by simp), va_Zof (hts _ (tb_ls_ok (Cond.laysStatic "LabelHouse$Setter" "RANGES" "[I") (by simp))) (hI 8 (by decide)) e0 hA⟩
    · exact ⟨"LabelHouse$Setter", "HAS", "[I", tb_gw_ok (Cond.fieldLink "LabelHouse$Setter" 110 "LabelHouse$Setter" "HAS" "[I") (by simp), va_Zof (hts _ (tb_ls_ok (Cond.laysStatic "LabelHouse$Setter" "HAS" "[I") (by simp))) (hI 8 (by decide)) e1 hA⟩
    · exact ⟨"LabelHouse$Setter", "KINDS", "[I", tb_gw_ok (Cond.fieldLink "LabelHouse$Setter" 225 "LabelHouse$Setter" "KINDS" "[I") (by simp), va_Zof (hts _ (tb_ls_ok (Cond.laysStatic "LabelHouse$Setter" "KINDS" "[I") (by simp))) (hI 8 (by decide)) e2 hA⟩
    · exact ⟨"LabelHouse$Bars", "SYMBOLS", "[I", tb_gw_ok (Cond.fieldLink "LabelHouse$Bars" 89 "LabelHouse$Bars" "SYMBOLS" "[I") (by simp), va_Zof (hts _ (tb_ls_ok (Cond.laysStatic "LabelHouse$Bars" "SYMBOLS" "[I") (by simp))) (hI 0 (by decide)) e3 hA⟩
    · exact ⟨"LabelHouse$Bars", "FIRSTS", "[I", tb_gw_ok (Cond.fieldLink "LabelHouse$Bars" 106 "LabelHouse$Bars" "FIRSTS" "[I") (by simp), va_Zof (hts _ (tb_ls_ok (Cond.laysStatic "LabelHouse$Bars" "FIRSTS" "[I") (by simp))) (hI 0 (by decide)) e4 hA⟩
    · exact ⟨"LabelHouse$Bars", "TURNED", "[I", tb_gw_ok (Cond.fieldLink "LabelHouse$Bars" 109 "LabelHouse$Bars" "TURNED" "[I") (by simp), va_Zof (hts _ (tb_ls_ok (Cond.laysStatic "LabelHouse$Bars" "TURNED" "[I") (by simp))) (hI 0 (by decide)) e5 hA⟩
    · exact ⟨"LabelHouse$Bars", "FIGURES", "[I", tb_gw_ok (Cond.fieldLink "LabelHouse$Bars" 112 "LabelHouse$Bars" "FIGURES" "[I") (by simp), va_Zof (hts _ (tb_ls_ok (Cond.laysStatic "LabelHouse$Bars" "FIGURES" "[I") (by simp))) (hI 0 (by decide)) e6 hA⟩
    · exact ⟨"LabelHouse$Segments", "NEXT", "[I", tb_gw_ok (Cond.fieldLink "LabelHouse$Segments" 62 "LabelHouse$Segments" "NEXT" "[I") (by simp), va_Zof (hts _ (tb_ls_ok (Cond.laysStatic "LabelHouse$Segments" "NEXT" "[I") (by simp))) (hI 7 (by decide)) e7 hA⟩
    · exact ⟨"LabelHouse$Segments", "MODES", "[I", tb_gw_ok (Cond.fieldLink "LabelHouse$Segments" 69 "LabelHouse$Segments" "MODES" "[I") (by simp), va_Zof (hts _ (tb_ls_ok (Cond.laysStatic "LabelHouse$Segments" "MODES" "[I") (by simp))) (hI 7 (by decide)) e8 hA⟩
    · exact ⟨"LabelHouse$Segments", "COUNT_BITS", "[I", tb_gw_ok (Cond.fieldLink "LabelHouse$Segments" 72 "LabelHouse$Segments" "COUNT_BITS" "[I") (by simp), va_Zof (hts _ (tb_ls_ok (Cond.laysStatic "LabelHouse$Segments" "COUNT_BITS" "[I") (by simp))) (hI 7 (by decide)) e9 hA⟩
    · exact ⟨"LabelHouse$Segments", "BITS", "[I", tb_gw_ok (Cond.fieldLink "LabelHouse$Segments" 75 "LabelHouse$Segments" "BITS" "[I") (by simp), va_Zof (hts _ (tb_ls_ok (Cond.laysStatic "LabelHouse$Segments" "BITS" "[I") (by simp))) (hI 7 (by decide)) e10 hA⟩
    · exact ⟨"LabelHouse$Blocks", "COUNTS", "[I", tb_gw_ok (Cond.fieldLink "LabelHouse$Blocks" 47 "LabelHouse$Blocks" "COUNTS" "[I") (by simp), va_Zof (hts _ (tb_ls_ok (Cond.laysStatic "LabelHouse$Blocks" "COUNTS" "[I") (by simp))) (hI 1 (by decide)) e11 hA⟩
    · exact ⟨"LabelHouse$Blocks", "CHECKS", "[I", tb_gw_ok (Cond.fieldLink "LabelHouse$Blocks" 50 "LabelHouse$Blocks" "CHECKS" "[I") (by simp), va_Zof (hts _ (tb_ls_ok (Cond.laysStatic "LabelHouse$Blocks" "CHECKS" "[I") (by simp))) (hI 1 (by decide)) e12 hA⟩
    · exact ⟨"LabelHouse$Finder", "RIGHT", "[I", tb_gw_ok (Cond.fieldLink "LabelHouse$Finder" 108 "LabelHouse$Finder" "RIGHT" "[I") (by simp), va_Zof (hts _ (tb_ls_ok (Cond.laysStatic "LabelHouse$Finder" "RIGHT" "[I") (by simp))) (hI 3 (by decide)) e13 hA⟩
    · exact ⟨"LabelHouse$Finder", "DOWN", "[I", tb_gw_ok (Cond.fieldLink "LabelHouse$Finder" 111 "LabelHouse$Finder" "DOWN" "[I") (by simp), va_Zof (hts _ (tb_ls_ok (Cond.laysStatic "LabelHouse$Finder" "DOWN" "[I") (by simp))) (hI 3 (by decide)) e14 hA⟩
  · intro a ha
    have ha : (tb_xk L a).1 = 33 := ha
    show va_T .int (ad a) (tb_xk L a).2 (fun j => .int (tb_xi xs a j)) _ s s.heap
    by_cases h5 : a = 5000000
    · subst h5
      obtain ⟨scr, h1, h2, h3, h4, h6⟩ := hX
      exact ⟨scr, h1, h2, h3, by rw [h4]; exact Nat.le_refl _, by rw [h4]; rfl, h6, hA b hb⟩
    · unfold tb_xk at ha ⊢
      rw [if_neg h5] at ha ⊢
      by_cases h1 : 1000000 ≤ a ∧ a < 1000015
      · rw [if_pos h1] at ha ⊢
        obtain ⟨i, rfl⟩ := Nat.exists_eq_add_of_le h1.1
        have hi : i < 15 := by omega
        have e1 : ∀ j, tb_xi xs (1000000 + i) j = (tb_xs i).getD j 0 := by
          intro j
          unfold tb_xi
          rw [if_neg h5, if_pos (by omega), Nat.add_sub_cancel_left]
        simp only [e1, Nat.add_sub_cancel_left]
        match i, hi with
        | 0, _ => exact T0
        | 1, _ => exact T1
        | 2, _ => exact T2
        | 3, _ => exact T3
        | 4, _ => exact T4
        | 5, _ => exact T5
        | 6, _ => exact T6
        | 7, _ => exact T7
        | 8, _ => exact T8
        | 9, _ => exact T9
        | 10, _ => exact T10
        | 11, _ => exact T11
        | 12, _ => exact T12
        | 13, _ => exact T13
        | 14, _ => exact T14
        | n + 15, hi => omega
      · rw [if_neg h1] at ha
        exfalso
        split at ha
        · cases ha
        · split at ha <;> cases ha
  · intro a ha
    have ha : (tb_xk L a).1 = 32 := ha
    show va_T .byte (ad a) (tb_xk L a).2 (fun j => .int (tb_xi xs a j)) _ s s.heap
    unfold tb_xk at ha ⊢
    by_cases h5 : a = 5000000
    · rw [if_pos h5] at ha; cases ha
    · rw [if_neg h5] at ha ⊢
      by_cases h1 : 1000000 ≤ a ∧ a < 1000015
      · rw [if_pos h1] at ha; cases ha
      · rw [if_neg h1] at ha ⊢
        by_cases h2 : 2000000 ≤ a ∧ a < 2000002
        · rw [if_pos h2] at ha; cases ha
        · rw [if_neg h2] at ha ⊢
          by_cases h3 : 3000000 ≤ a ∧ a < 3000002
          · rw [if_pos h3] at ha ⊢
            obtain ⟨i, rfl⟩ := Nat.exists_eq_add_of_le h3.1
            have hi : i < 2 := by omega
            have e1 : ∀ j, tb_xi xs (3000000 + i) j = (tb_by i).getD j 0 := by
              intro j
              unfold tb_xi
              rw [if_neg h5, if_neg (by omega), Nat.add_sub_cancel_left]
            simp only [e1, Nat.add_sub_cancel_left]
            match i, hi with
            | 0, _ => exact V0
            | 1, _ => exact V1
            | n + 2, hi => omega
          · rw [if_neg h3] at ha; cases ha
  · intro a ha
    have ha : (tb_xk L a).1 = 50 := ha
    have h2 : 2000000 ≤ a ∧ a < 2000002 := by
      unfold tb_xk at ha
      split at ha
      · cases ha
      · split at ha
        · cases ha
        · split at ha
          · assumption
          · split at ha <;> cases ha
    obtain ⟨i, rfl⟩ := Nat.exists_eq_add_of_le h2.1
    have hi : i < 2 := by omega
    match i, hi with
    | 0, _ => exact ⟨va_Oof hex0 ek0 hA, vk_OFof ek0 (va_eqt hco0) hA, vk_OFof ek0 ev0 hA⟩
    | 1, _ => exact ⟨va_Oof hex1 ek1 hA, vk_OFof ek1 (va_eqt hco1) hA, vk_OFof ek1 ev1 hA⟩
    | n + 2, hi => omega
  · intro ow k a h
    have hm : (ow, k, a) ∈ tb_sl := tb_find_mem h
    simp only [tb_sl, List.mem_cons, List.not_mem_nil, or_false, Prod.mk.injEq] at hm
    rcases hm with ⟨rfl, rfl, rfl⟩ | ⟨rfl, rfl, rfl⟩
    · exact ⟨"SLKEHCDUORXV#TWBNQFIGP;", vk_R.of (hts _ (tb_sr_ok (Cond.stringRef "LabelHouse$Setter" 91 "SLKEHCDUORXV#TWBNQFIGP;") (by simp))) ek0⟩
    · exact ⟨"0123456789ABCDEFGHIJKLMNOPQRSTUVWXYZ $%*+-./:", vk_R.of (hts _ (tb_sr_ok (Cond.stringRef "LabelHouse$Segments" 42 "0123456789ABCDEFGHIJKLMNOPQRSTUVWXYZ $%*+-./:") (by simp))) ek1⟩
  · intro ow k j d h hh hc hj
    have hm : (ow, k, h) ∈ tb_ho := tb_find_mem hh
    have hc : tb_cal ow k = some j := hc
    have hj : tb_M[j]? = some d := hj
    simp only [tb_ho, List.mem_cons, List.not_mem_nil, or_false, Prod.mk.injEq] at hm
    rcases hm with ⟨rfl, rfl, rfl⟩ | ⟨rfl, rfl, rfl⟩ | ⟨rfl, rfl, rfl⟩ | ⟨rfl, rfl, rfl⟩ | ⟨rfl, rfl, rfl⟩ | ⟨rfl, rfl, rfl⟩
    · have e9 : tb_cal 11 9 = some 1 := by decide +kernel
      cases Option.some.inj (e9.symm.trans hc)
      cases hj
      exact va_Nw.of rfl (hts _ (tb_nest (Cond.methodLinkNest "LabelHouse" 9 ⟨"LabelHouse$Tape", "<init>", "()V"⟩ "LabelHouse") (by simp)))
    · have e9 : tb_cal 11 36 = some 5 := by decide +kernel
      cases Option.some.inj (e9.symm.trans hc)
      cases hj
      exact va_Nw.of rfl (hts _ (tb_nest (Cond.methodLinkNest "LabelHouse" 36 ⟨"LabelHouse$Sheet", "<init>", "()V"⟩ "LabelHouse") (by simp)))
    · have e9 : tb_cal 11 43 = some 6 := by decide +kernel
      cases Option.some.inj (e9.symm.trans hc)
      cases hj
      exact va_Nw.of rfl (hts _ (tb_nest (Cond.methodLinkNest "LabelHouse" 43 ⟨"LabelHouse$Bars", "<init>", "()V"⟩ "LabelHouse") (by simp)))
    · have e9 : tb_cal 11 50 = some 7 := by decide +kernel
      cases Option.some.inj (e9.symm.trans hc)
      cases hj
      exact va_Nw.of rfl (hts _ (tb_nest (Cond.methodLinkNest "LabelHouse" 50 ⟨"LabelHouse$Grid", "<init>", "()V"⟩ "LabelHouse") (by simp)))
    · have e9 : tb_cal 4 11 = some 8 := by decide +kernel
      cases Option.some.inj (e9.symm.trans hc)
      cases hj
      exact va_Nw.of rfl (hts _ (tb_nest (Cond.methodLinkNest "LabelHouse$Grid" 11 ⟨"LabelHouse$Segments", "<init>", "()V"⟩ "LabelHouse") (by simp)))
    · have e9 : tb_cal 8 43 = some 4 := by decide +kernel
      cases Option.some.inj (e9.symm.trans hc)
      cases hj
      exact va_Nw.of rfl (hts _ (tb_nest (Cond.methodLinkNest "LabelHouse$Setter" 43 ⟨"LabelHouse$Field", "<init>", "()V"⟩ "LabelHouse") (by simp)))
  · refine ⟨fun w hw => ?_, ?_, ?_, fun q hq => ?_⟩
    · have h1 := hts w (List.mem_filter.mp hw).1
      rcases tb_mvE w hw with ⟨x, rfl⟩ | ⟨C, T, rfl⟩
      · exact va_Nw.of rfl h1
      · exact va_Nw.of rfl h1
    · exact vx_Zqof (hts _ (tb_has_mem (by decide +kernel))) (hts _ (tb_has_mem (by decide +kernel))) (hf _ (tb_has_mem (by decide +kernel))) hA
    · exact vx_Zqof (hts _ (tb_has_mem (by decide +kernel))) (hts _ (tb_has_mem (by decide +kernel))) (hf _ (tb_has_mem (by decide +kernel))) hA
    · cases List.mem_singleton.mp hq
      exact va_Nc.of (hf (.not (.castable (tb_En 1) (tb_En 0))) (tb_has_mem (by decide +kernel)))
/-- the empty memory -/
def im_M0 : im_M := (0, true, fun _ => (0, 0), fun _ _ => 0, fun _ _ => 0, fun _ _ => none)
/-- the law itself -/
def J_law : im_J := (x, code, 8, ret, 1, 1, 18)
/-- the law's frame at its entry -/
def lw_F0 : im_F := (0, [(0, .ref 5000000)], [], im_M0)
/-- WHAT IS LEFT: the pure run of the law ends with 1, within the room -/
def lw_Run (L : Nat) (xs : Nat → Int32) : Prop := ∃ (n dep : Nat) (M' : im_M) (t : Nat), im_runX (tb_G L xs) tb_X n dep J_law [] lw_F0 = some (some (.int 1), M', t) ∧ dep ≤ 1300 ∧ im_n M' + t ≤ 601024 ∧ im_tt (tb_G L xs) M' + 6 * t ≤ 7293034
theorem lw_start {p : Program} {e : Env} {s : State} {m : MethodId} {below : List Frame} {meth : Method} {c : Code} (l : Launch) (htr : l.stackTraces = false) {b L : Nat} {xs : Nat → Int32} (hR : lw_Run L xs) (htab : c.exceptionTable.toList = []) {t0 : Nat} (hz : va_Z "jdk/internal/util/Preconditions" "SIOOBE_FORMATTER" "Ljava/util/function/BiFunction;" (if xs 1000000000 = 0 then .null else .ref t0) (fun q => s.heap.size ≤ q) s s.heap) (C0 : lw_At p s m meth c b L xs) : W p l e room_1 s m #[Value.ref b] below meth c s.heap [] 0 0 (lw_Z below #[Value.ref b] s) (entryFrame m ([Value.ref b] : List Value).toArray 8) := by
  obtain ⟨n, dep, M', t, hrun, hdep, hcell, hslot⟩ := hR
  obtain ⟨D, cy, ad, had, hb5, hK, hXX, hY, hZ⟩ := lw_world hz C0
  obtain ⟨hx, hcode, hret, hml, hown, hts, hX, hb, hlk, hgv⟩ := C0
  have hsafe := (im_soundX (EW := tb_EW) (NC := tb_NC) (l := l) (D := D) (cy := cy) (ad := ad) (z := s.heap.size) (tb_OK L xs) (tb_TE L xs) (tb_TXok L xs) tb_mvE htr had n dep J_law [] lw_F0 _ M' t hrun).2
  have hW : ∀ w ∈ tb_WS, w.before #[Value.ref b] s = true := fun w hw => hts w (List.mem_filter.mp hw).1
  have hgo := hsafe p e room_1 s m #[Value.ref b] below meth c (lw_Z below #[Value.ref b] s) 0 0 ⟨hx, hcode, hW, hown, hK, (fun h => by cases h), hml⟩ hXX hY hZ (Nat.le_refl _) htab (by show dep ≤ 2048; omega) (by show dep * 64 ≤ 84000; omega)
    (by show 0 + (im_n M' - im_n im_M0) + t ≤ 601024; show 0 + (im_n M' - 0) + t ≤ 601024; omega) (by show 0 + (im_tt (tb_G L xs) M' - im_tt (tb_G L xs) im_M0) + 6 * t ≤ 7293034; show 0 + (im_tt (tb_G L xs) M' - 0) + 6 * t ≤ 7293034; omega) ?_
  · have hl := lv_entry ([Value.ref b]) (n := 8) (show 1 ≤ 8 by decide)
    rw [lg_entry_eq]
    have hla : im_L ad lw_F0.2.1 = lv_args 0 [Value.ref b] := by
      show [(0, im_v ad (.ref 5000000))] = _
      show [(0, Value.ref (ad 5000000))] = _
      rw [hb5]
      rfl
    refine hgo _ s.heap [] (by rw [hla]; exact hl) ⟨fun k q hq => ?_, fun i hi => absurd hi (Nat.not_lt_zero i), Nat.le_refl _, fun _ => rfl, fun a ha => ?_⟩ va_S.rf
    · cases hq
    · cases ha
  · intro pc i ls H locs hd hk hH hS
    have hi : i = .ireturn := by
      rcases hk with ⟨-, h, -⟩ | ⟨t9, x9, h, -⟩ | ⟨x9, -, -, h⟩ | ⟨rt, a, -, h⟩
      · cases h
      · exact h
      · cases h
      · simp at h
    subst hi
    refine va_forget (fun q hq => hS.2.2 q hq) ?_
    refine W.widen (k := 601024) (n := 7293034) (by show 0 + (im_n M' - 0) + t ≤ 601024; omega) (by show 0 + (im_tt (tb_G L xs) M' - 0) + 6 * t ≤ 7293034; omega) ?_
    exact lw_ret hx hcode hret hlk hd
