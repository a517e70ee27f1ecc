/-! THROWS AND THE LAW'S OWN METHODS AS TABLES; THE CLAIM OUT OF A RUN OF THE LAW -/
def tb_En (E : Nat) : String := match E with
  | 0 => "java/lang/IllegalArgumentException"
  | 1 => "java/lang/IndexOutOfBoundsException"
  | _ => ""
def tb_el : List (Nat × Nat × Nat × Nat) := [(11, 84, 0, 86), (11, 103, 1, 105)]
def tb_ct : List (Nat × Nat × Nat) := [(18, 13, 0), (18, 22, 1)]
def tb_EW : List Cond := lw_tbl.filter (fun w => match w with | .declares _ => true | .castable _ _ => true | _ => false)
theorem tb_mvE : im_mvE tb_EW := by
  intro w hw
  have h := (List.mem_filter.mp hw).2
  cases w <;> simp at h
  · exact Or.inl ⟨_, rfl⟩
  · exact Or.inr ⟨_, _, rfl⟩
def tb_has (w : Cond) : List Cond → Bool
  | [] => false
  | h :: t => if h = w then true else tb_has w t
theorem tb_has_mem {w : Cond} : ∀ {l : List Cond}, tb_has w l = true → w ∈ l
  | [], h => by cases h
  | a :: t, h => by
    unfold tb_has at h
    by_cases e : a = w
    · rw [← e]; exact List.mem_cons_self
    · rw [if_neg e] at h; exact List.mem_cons_of_mem _ (tb_has_mem h)
def tb_isE (w : Cond) : Bool := match w with | .declares _ => true | .castable _ _ => true | _ => false
theorem tb_inE {w : Cond} (h : w ∈ lw_tbl) (hg : (goodWord w || tb_isE w) = true) : w ∈ tb_WS ∨ w ∈ tb_EW := by
  rcases Bool.or_eq_true _ _ |>.mp hg with h1 | h1
  · exact Or.inl (List.mem_filter.mpr ⟨h, h1⟩)
  · exact Or.inr (List.mem_filter.mpr ⟨h, h1⟩)
set_option maxRecDepth 100000 in
theorem tb_e0_w : (vx_at0 "LabelHouse" 86 (tb_En 0) im_names).all (fun w => vx_ot w && (tb_has w lw_tbl && (goodWord w || tb_isE w))) = true := by decide +kernel
theorem tb_e0_l : ∀ w ∈ [Cond.initialized (tb_En 0), Cond.classLink "LabelHouse" 84 (tb_En 0)], w ∈ tb_WS := tb_mem (gs := [257, 1188]) (by decide +kernel) (by decide +kernel) (by decide +kernel)
set_option maxRecDepth 100000 in
theorem tb_e1_w : (vx_at0 "LabelHouse" 105 (tb_En 1) im_names).all (fun w => vx_ot w && (tb_has w lw_tbl && (goodWord w || tb_isE w))) = true := by decide +kernel
theorem tb_e1_l : ∀ w ∈ [Cond.initialized (tb_En 1), Cond.classLink "LabelHouse" 103 (tb_En 1)], w ∈ tb_WS := tb_mem (gs := [269, 1215]) (by decide +kernel) (by decide +kernel) (by decide +kernel)
def JW_feed : im_J := (⟨"LabelHouseLaw", "feed", "(LLabelHouse;IJ[J)I"⟩, method_3_code, 6, (some .int), 4, 1, 18)
def JW_feed_h : List (Nat × Nat × Nat × Nat) := [(0, 11, 14, 13)]
def JW_font : im_J := (⟨"LabelHouseLaw", "font", "(LLabelHouse;IIII)I"⟩, method_4_code, 6, (some .int), 5, 1, 18)
def JW_font_h : List (Nat × Nat × Nat × Nat) := [(0, 9, 12, 13)]
def JW_cell : im_J := (⟨"LabelHouseLaw", "cell", "(LLabelHouse;IIII)I"⟩, method_5_code, 6, (some .int), 5, 1, 18)
def JW_cell_h : List (Nat × Nat × Nat × Nat) := [(0, 9, 12, 13), (0, 9, 16, 22)]
def JW_label : im_J := (⟨"LabelHouseLaw", "label", "(LLabelHouse;II[J)I"⟩, method_6_code, 5, (some .int), 4, 1, 18)
def JW_label_h : List (Nat × Nat × Nat × Nat) := [(0, 10, 13, 13)]
def JW_order : im_J := (⟨"LabelHouseLaw", "order", "(LLabelHouse;II[J)I"⟩, method_7_code, 5, (some .int), 4, 1, 18)
def JW_order_h : List (Nat × Nat × Nat × Nat) := [(0, 10, 13, 13), (0, 10, 17, 22)]
def JW_data : im_J := (⟨"LabelHouseLaw", "data", "(LLabelHouse;II[J)I"⟩, method_8_code, 5, (some .int), 4, 1, 18)
def JW_data_h : List (Nat × Nat × Nat × Nat) := [(0, 9, 12, 22)]
def JW_print : im_J := (⟨"LabelHouseLaw", "print", "(LLabelHouse;I[J)I"⟩, method_9_code, 4, (some .int), 3, 1, 18)
def JW_print_h : List (Nat × Nat × Nat × Nat) := [(0, 9, 12, 22)]
def JW_turn : im_J := (⟨"LabelHouseLaw", "turn", "(LLabelHouse;I)I"⟩, method_10_code, 3, (some .int), 2, 1, 18)
def JW_turn_h : List (Nat × Nat × Nat × Nat) := [(0, 5, 8, 13)]
def JW_told : im_J := (⟨"LabelHouseLaw", "told", "(LLabelHouse;I[J)I"⟩, method_11_code, 4, (some .int), 3, 1, 18)
def JW_told_h : List (Nat × Nat × Nat × Nat) := [(0, 9, 12, 13)]
def JW_run : im_J := (⟨"LabelHouseLaw", "run", "(LLabelHouse;IIIZ[J)I"⟩, method_12_code, 7, (some .int), 6, 1, 18)
def JW_run_h : List (Nat × Nat × Nat × Nat) := [(0, 14, 17, 22)]
def JW_scan : im_J := (⟨"LabelHouseLaw", "scan", "(LLabelHouse;III[J)I"⟩, method_13_code, 6, (some .int), 5, 1, 18)
def JW_scan_h : List (Nat × Nat × Nat × Nat) := [(0, 12, 15, 13)]
def JW_found : im_J := (⟨"LabelHouseLaw", "found", "(LLabelHouse;II[J)I"⟩, method_14_code, 5, (some .int), 4, 1, 18)
def JW_found_h : List (Nat × Nat × Nat × Nat) := [(0, 10, 13, 13)]
def JW_decode : im_J := (⟨"LabelHouseLaw", "decode", "(LLabelHouse;I[J)I"⟩, method_15_code, 4, (some .int), 3, 1, 18)
def JW_decode_h : List (Nat × Nat × Nat × Nat) := [(0, 9, 12, 22)]
def JW_bars : im_J := (⟨"LabelHouseLaw", "bars", "(LLabelHouse;IIZ[J)I"⟩, method_16_code, 6, (some .int), 5, 1, 18)
def JW_bars_h : List (Nat × Nat × Nat × Nat) := [(0, 12, 15, 22)]
def JW_reading : im_J := (⟨"LabelHouseLaw", "reading", "(LLabelHouse;I[J)I"⟩, method_17_code, 4, (some .int), 3, 1, 18)
def JW_reading_h : List (Nat × Nat × Nat × Nat) := [(0, 9, 12, 13)]
def tb_W : List (im_J × List (Nat × Nat × Nat × Nat)) := [(JW_feed, JW_feed_h), (JW_font, JW_font_h), (JW_cell, JW_cell_h), (JW_label, JW_label_h), (JW_order, JW_order_h), (JW_data, JW_data_h), (JW_print, JW_print_h), (JW_turn, JW_turn_h), (JW_told, JW_told_h), (JW_run, JW_run_h), (JW_scan, JW_scan_h), (JW_found, JW_found_h), (JW_decode, JW_decode_h), (JW_bars, JW_bars_h), (JW_reading, JW_reading_h)]
set_option maxRecDepth 100000 in
theorem tb_W_pick : tb_pick [1440, 22, 11, 30, 6, 7, 6, 359, 14, 27, 18, 96, 7, 112, 52] lw_tbl = tb_W.map (fun q => Cond.codeWith q.1.1 q.1.2.1 q.1.2.2.1 q.1.2.2.2.1 q.2) := by rfl
theorem tb_W_code : ∀ x ∈ tb_W, (fun q : im_J × List (Nat × Nat × Nat × Nat) => Cond.codeWith q.1.1 q.1.2.1 q.1.2.2.1 q.1.2.2.2.1 q.2) x ∈ tb_WS := tb_all (tb_memR tb_W_pick (by decide +kernel))
theorem tb_W_stat : ∀ x ∈ [0, 1, 2, 3, 4, 5, 6, 7, 8, 9, 10, 11, 12, 13, 14], (fun k : Nat => match tb_W[k]? with | some q => Cond.static q.1.1 | none => .tt) x ∈ tb_WS := tb_all (tb_mem (gs := [1439, 22, 11, 30, 6, 7, 6, 359, 14, 27, 18, 96, 7, 112, 52]) (by decide +kernel) (by decide +kernel) (by decide +kernel))
theorem tb_W_chk : tb_W.all (fun q => plainName q.1.1.cls && decide (q.1.1.cls ≠ "java/lang/invoke/MethodHandle") && decide (q.1.1.cls ≠ "java/lang/invoke/VarHandle") && decide ((parseMethodDescriptor q.1.1.desc).map (fun z => z.parameters.length) = some q.1.2.2.2.2.1) && decide (tb_nm q.1.2.2.2.2.2.2 = q.1.1.cls) && decide (q.1.2.2.2.2.2.2 = 18) && decide (q.1.2.2.2.2.2.1 = 1)) = true := by decide +kernel
def tb_wl : List (Nat × Nat × Nat) := [(18, 73, 0), (18, 87, 1), (18, 91, 2), (18, 106, 3), (18, 110, 4), (18, 113, 5), (18, 116, 6), (18, 129, 7), (18, 133, 8), (18, 140, 9), (18, 144, 10), (18, 148, 11), (18, 151, 12), (18, 154, 13), (18, 158, 14)]
def tb_ww (e : Nat × Nat × Nat) : Cond := match tb_W[e.2.2]? with
  | some q => .methodLink (tb_nm e.1) e.2.1 q.1.1
  | none => .tt
theorem tb_wl_ok : ∀ x ∈ tb_wl, tb_ww x ∈ tb_WS := tb_all (tb_mem (gs := [1438, 22, 11, 30, 6, 7, 6, 359, 14, 27, 18, 96, 7, 112, 52]) (by decide +kernel) (by decide +kernel) (by decide +kernel))
def tb_wT (ow k : Nat) : Option (im_J × List (Nat × Nat × Nat × Nat)) := match tb_find tb_wl ow k with
  | some j => tb_W[j]?
  | none => none
/-- THE TABLES OF THROWS -/
def tb_X : im_E := (tb_En, tb_find tb_el, tb_wT, tb_find tb_ct)
def tb_NC : List (String × String) := [(tb_En 1, tb_En 0)]
theorem tb_TE (L : Nat) (xs : Nat → Int32) : im_TE (tb_G L xs) tb_X tb_EW := by
  intro ow k E ic h
  have hm : (ow, k, E, ic) ∈ tb_el := tb_find_mem h
  simp only [tb_el, List.mem_cons, List.not_mem_nil, or_false, Prod.mk.injEq] at hm
  rcases hm with ⟨rfl, rfl, rfl, rfl⟩ | ⟨rfl, rfl, rfl, rfl⟩
  · refine ⟨by decide +kernel, tb_e0_l (Cond.classLink "LabelHouse" 84 (tb_En 0)) (by simp), tb_e0_l (Cond.initialized (tb_En 0)) (by simp), fun w hw => ?_⟩
    have h9 := List.all_eq_true.mp tb_e0_w w hw
    simp only [Bool.and_eq_true] at h9
    exact ⟨h9.1, tb_inE (tb_has_mem h9.2.1) h9.2.2⟩
  · refine ⟨by decide +kernel, tb_e1_l (Cond.classLink "LabelHouse" 103 (tb_En 1)) (by simp), tb_e1_l (Cond.initialized (tb_En 1)) (by simp), fun w hw => ?_⟩
    have h9 := List.all_eq_true.mp tb_e1_w w hw
    simp only [Bool.and_eq_true] at h9
    exact ⟨h9.1, tb_inE (tb_has_mem h9.2.1) h9.2.2⟩
theorem tb_ct_ok : ∀ w ∈ [Cond.classLink "LabelHouseLaw" 13 (tb_En 0), Cond.classLink "LabelHouseLaw" 22 (tb_En 1)], w ∈ tb_WS := tb_mem (gs := [1441, 34]) (by decide +kernel) (by decide +kernel) (by decide +kernel)
theorem tb_cast0 : Cond.castable (tb_En 0) (tb_En 0) ∈ tb_EW := List.mem_filter.mpr ⟨tb_has_mem (by decide +kernel), rfl⟩
theorem tb_cast1 : Cond.castable (tb_En 1) (tb_En 1) ∈ tb_EW := List.mem_filter.mpr ⟨tb_has_mem (by decide +kernel), rfl⟩
theorem tb_TXok (L : Nat) (xs : Nat → Int32) : im_TX (tb_G L xs) tb_X tb_EW tb_NC := by
  refine ⟨?_, List.mem_cons_self, ?_⟩
  · intro ow k E h
    have hm : (ow, k, E) ∈ tb_ct := tb_find_mem h
    simp only [tb_ct, List.mem_cons, List.not_mem_nil, or_false, Prod.mk.injEq] at hm
    rcases hm with ⟨rfl, rfl, rfl⟩ | ⟨rfl, rfl, rfl⟩
    · exact ⟨by decide, tb_ct_ok (Cond.classLink "LabelHouseLaw" 13 (tb_En 0)) (by simp), tb_cast0⟩
    · exact ⟨by decide, tb_ct_ok (Cond.classLink "LabelHouseLaw" 22 (tb_En 1)) (by simp), tb_cast1⟩
  · intro ow k d hh h
    have h : tb_wT ow k = some (d, hh) := h
    unfold tb_wT at h
    cases hf : tb_find tb_wl ow k with
    | none => rw [hf] at h; cases h
    | some j =>
      rw [hf] at h
      simp only at h
      have hq : (d, hh) ∈ tb_W := List.mem_of_getElem? h
      have hc := List.all_eq_true.mp tb_W_chk _ hq
      simp only [Bool.and_eq_true, decide_eq_true_eq] at hc
      obtain ⟨⟨⟨⟨⟨⟨p1, p2⟩, p3⟩, p4⟩, p5⟩, p6⟩, p7⟩ := hc
      have hl := tb_wl_ok _ (tb_find_mem hf)
      unfold tb_ww at hl
      simp only [h] at hl
      have hlt : j < 15 := (List.getElem?_eq_some_iff.mp h).1
      have hs := tb_W_stat j ((by decide : ∀ j, j < 15 → j ∈ [0, 1, 2, 3, 4, 5, 6, 7, 8, 9, 10, 11, 12, 13, 14]) j hlt)
      simp only [h] at hs
      refine ⟨tb_W_code _ hq, p1, ⟨p2, p3, p4⟩, ?_, p5, hl, hs, p7⟩
      have := tb_inis _ (List.mem_map_of_mem (f := fun c => Cond.initialized (tb_nm c)) (show 18 ∈ tb_icl by decide))
      rw [← p5, p6]
      exact this
def R_law : String := "LabelHouseLaw"
def lw_P (b : Addr) (xs : List Int32) (args : Array Value) (s : State) : Prop := args = #[.ref b] ∧ s.IntsAt b xs ∧ xs.length ≤ 2560 ∧ (Jvm.Cond.and given_1 narrow_1).before args s = true
def lw_Q (_ : Array Value) (s : State) (o : Outcome) (t : State) : Prop := o = .returned (some (.int 1)) ∧ Framed s o t [] 601024 7293034
def lw_Z (below : List Frame) (a : Array Value) (s : State) : State → Prop := fun t => ∃ o, t.status = .running ∧ Ended t below o ∧ lw_Q a s o t
/-- the law's own end, with 1 on the stack, nothing written that was there before, its room as the claim has it -/
theorem lw_ret {p : Program} {l : Launch} {e : Env} {s : State} {m : MethodId} {below : List Frame} {meth : Method} {c : Code} {b : Nat} (hx : p.tables.exec = Jvm.exec) (hb : c.code = code) (hr : meth.sig.returnType = ret) (hlocks : meth.locks = false) {pc : Nat} {H : Heap} {ls : Array Slot} (hdg : decode code pc = .ok (.ireturn, 1)) : W p l e room_1 s m #[Value.ref b] below meth c H [] 601024 7293034 (lw_Z below #[Value.ref b] s) (F0 m pc ls [.int 1]) := by
  intro T hT X
  obtain ⟨fs, hret, hrun, hended, hW, hframe⟩ := X.leave (v := some (.int 1)) (hlocks := hlocks) (fun h => by rw [hr] at h; cases h)
  have hmeth' : T.vm.method? m = some meth := X.method'
  refine ⟨T.setFrames fs, ?_, .returned (some (.int 1)), hrun, hended, rfl, ⟨_, rfl⟩, hW, hframe⟩
  jvm_step X.here [X.here.top, hx, hb, hdg, hmeth', hr, ret, narrow_b1]
  (try refine ⟨rfl, ?_⟩); (try refine ⟨rfl, ?_⟩)
  first | (intro acts; rw [hret _ acts rfl rfl rfl]) | rw [hret _ _ rfl rfl rfl]
  exact Steps.refl _
/-- what holds at the law's entry: the machine, the code, the tables' words (any of lw_tbl by 'hts w (by decide +kernel)'), the script of L ints xs at the cell b, what the Statement gives of the start (any of its parts by flat_of_before) -/
def lw_At (p : Program) (s : State) (m : MethodId) (meth : Method) (c : Code) (b L : Nat) (xs : Nat → Int32) : Prop :=
  p.tables.exec = Jvm.exec ∧ c.code = code ∧ meth.sig.returnType = ret ∧ c.maxLocals = 8 ∧ s.vm.findClass R_law = some m.cls ∧ (∀ w ∈ lw_tbl, w.before #[Value.ref b] s = true) ∧ va_X b L xs s s.heap ∧ b < s.heap.size ∧ meth.locks = false ∧ (Jvm.Cond.and given_1 narrow_1).before #[Value.ref b] s = true
theorem tb_choose {α β : Type} {r : α → β → Prop} (h : ∀ x, ∃ y, r x y) : ∃ f : α → β, ∀ x, r x (f x) := ⟨fun x => Classical.choose (h x), fun x => Classical.choose_spec (h x)⟩
theorem tb_classes {args : Array Value} {s : State} (hts : ∀ w ∈ tb_WS, w.before args s = true) : ∃ D : va_G, ∀ (c : Nat) (q : vw_C), tb_cl[c]? = some q → u_Kn s q.1 q.2.1 q.2.2 (D.1 c) (D.2 c) := by
  have h : ∀ c : Nat, ∃ y : ClassId × (Nat → Nat), ∀ q : vw_C, tb_cl[c]? = some q → u_Kn s q.1 q.2.1 q.2.2 y.1 y.2 := by
    intro c
    match c with
    | 0 =>
      obtain ⟨c9, i9, h9⟩ := u_known (C := RX0) (T := TX0) (N := 13) (n := 13) hts tb_lay0 (hts _ (tb_ins0 _ List.mem_cons_self))
      exact ⟨(c9, i9), fun q hq => by cases hq; exact h9⟩
    | 1 =>
      obtain ⟨c9, i9, h9⟩ := u_known (C := RX1) (T := TX1) (N := 14) (n := 14) hts tb_lay1 (hts _ (tb_ins1 _ List.mem_cons_self))
      exact ⟨(c9, i9), fun q hq => by cases hq; exact h9⟩
    | 2 =>
      obtain ⟨c9, i9, h9⟩ := u_known (C := RX2) (T := TX2) (N := 12) (n := 12) hts tb_lay2 (hts _ (tb_ins2 _ List.mem_cons_self))
      exact ⟨(c9, i9), fun q hq => by cases hq; exact h9⟩
    | 3 =>
      obtain ⟨c9, i9, h9⟩ := u_known (C := RX3) (T := TX3) (N := 11) (n := 11) hts tb_lay3 (hts _ (tb_ins3 _ List.mem_cons_self))
      exact ⟨(c9, i9), fun q hq => by cases hq; exact h9⟩
    | 4 =>
      obtain ⟨c9, i9, h9⟩ := u_known (C := RX4) (T := TX4) (N := 9) (n := 9) hts tb_lay4 (hts _ (tb_ins4 _ List.mem_cons_self))
      exact ⟨(c9, i9), fun q hq => by cases hq; exact h9⟩
    | 5 =>
      obtain ⟨c9, i9, h9⟩ := u_known (C := RX5) (T := TX5) (N := 4) (n := 4) hts tb_lay5 (hts _ (tb_ins5 _ List.mem_cons_self))
      exact ⟨(c9, i9), fun q hq => by cases hq; exact h9⟩
    | 6 =>
      obtain ⟨c9, i9, h9⟩ := u_known (C := RX6) (T := TX6) (N := 8) (n := 8) hts tb_lay6 (hts _ (tb_ins6 _ List.mem_cons_self))
      exact ⟨(c9, i9), fun q hq => by cases hq; exact h9⟩
    | 7 =>
      obtain ⟨c9, i9, h9⟩ := u_known (C := RX7) (T := TX7) (N := 7) (n := 7) hts tb_lay7 (hts _ (tb_ins7 _ List.mem_cons_self))
      exact ⟨(c9, i9), fun q hq => by cases hq; exact h9⟩
    | 8 =>
      obtain ⟨c9, i9, h9⟩ := u_known (C := RX8) (T := TX8) (N := 17) (n := 17) hts tb_lay8 (hts _ (tb_ins8 _ List.mem_cons_self))
      exact ⟨(c9, i9), fun q hq => by cases hq; exact h9⟩
    | 9 =>
      obtain ⟨c9, i9, h9⟩ := u_known (C := RX9) (T := TX9) (N := 6) (n := 6) hts tb_lay9 (hts _ (tb_ins9 _ List.mem_cons_self))
      exact ⟨(c9, i9), fun q hq => by cases hq; exact h9⟩
    | 10 =>
      obtain ⟨c9, i9, h9⟩ := u_known (C := RX10) (T := TX10) (N := 12) (n := 12) hts tb_lay10 (hts _ (tb_ins10 _ List.mem_cons_self))
      exact ⟨(c9, i9), fun q hq => by cases hq; exact h9⟩
    | 11 =>
      obtain ⟨c9, i9, h9⟩ := u_known (C := RX11) (T := TX11) (N := 13) (n := 13) hts tb_lay11 (hts _ (tb_ins11 _ List.mem_cons_self))
      exact ⟨(c9, i9), fun q hq => by cases hq; exact h9⟩
    | 12 =>
      obtain ⟨c9, i9, h9⟩ := u_known (C := RX12) (T := TX12) (N := 18) (n := 18) hts tb_lay12 (hts _ (tb_ins12 _ List.mem_cons_self))
      exact ⟨(c9, i9), fun q hq => by cases hq; exact h9⟩
    | 13 =>
      obtain ⟨c9, i9, h9⟩ := u_known (C := RX13) (T := TX13) (N := 18) (n := 18) hts tb_lay13 (hts _ (tb_ins13 _ List.mem_cons_self))
      exact ⟨(c9, i9), fun q hq => by cases hq; exact h9⟩
    | 14 =>
      obtain ⟨c9, i9, h9⟩ := u_known (C := RX14) (T := TX14) (N := 11) (n := 11) hts tb_lay14 (hts _ (tb_ins14 _ List.mem_cons_self))
      exact ⟨(c9, i9), fun q hq => by cases hq; exact h9⟩
    | 15 =>
      obtain ⟨c9, i9, h9⟩ := u_known (C := RX15) (T := TX15) (N := 40) (n := 40) hts tb_lay15 (hts _ (tb_ins15 _ List.mem_cons_self))
      exact ⟨(c9, i9), fun q hq => by cases hq; exact h9⟩
    | 16 =>
      obtain ⟨c9, i9, h9⟩ := u_known (C := RX16) (T := TX16) (N := 34) (n := 34) hts tb_lay16 (hts _ (tb_ins16 _ List.mem_cons_self))
      exact ⟨(c9, i9), fun q hq => by cases hq; exact h9⟩
    | 17 =>
      obtain ⟨c9, i9, h9⟩ := u_known (C := RX17) (T := TX17) (N := 13) (n := 13) hts tb_lay17 (hts _ (tb_ins17 _ List.mem_cons_self))
      exact ⟨(c9, i9), fun q hq => by cases hq; exact h9⟩
    | n + 18 => exact ⟨(0, fun _ => 0), fun q hq => by simp [tb_cl] at hq⟩
  obtain ⟨f, hf⟩ := tb_choose h
  exact ⟨(fun c => (f c).1, fun c => (f c).2), hf⟩
theorem tb_arrays {args : Array Value} {s : State} (hts : ∀ w ∈ tb_WS, w.before args s = true) : ∃ cy : Nat → ClassId, ∀ (k : Nat) (q : ClassId × FieldType), (im_tys cy)[k]? = some q → ArrOfT s q.1 q.2 ∧ va_RA s q.1 q.2 := by
  have one : ∀ t : FieldType, Cond.arrayClass t ∈ tb_WS → (∀ U c, va_RA U c t = (U.vm.findClass ("[" ++ t.toString) = some c)) → ∃ c : ClassId, ArrOfT s c t ∧ va_RA s c t := by
    intro t ht hr
    obtain ⟨c, k, comp, h1, h2, h3⟩ := Cond.arrayClass_spec (hts _ ht)
    exact ⟨c, fun n z => ⟨fun k h => (by cases h), k, h2, comp, h3⟩, by rw [hr]; exact h1⟩
  obtain ⟨c1, h1⟩ := one .byte tb_TR.1 (fun _ _ => rfl)
  obtain ⟨c2, h2⟩ := one .int tb_TR.2.1 (fun _ _ => rfl)
  obtain ⟨c3, h3⟩ := one .long tb_TR.2.2.1 (fun _ _ => rfl)
  obtain ⟨c4, h4⟩ := one .short tb_TR.2.2.2.1 (fun _ _ => rfl)
  obtain ⟨c5, h5⟩ := one .boolean tb_TR.2.2.2.2 (fun _ _ => rfl)
  refine ⟨fun k => if k = 32 then c1 else if k = 33 then c2 else if k = 34 then c3 else if k = 35 then c4 else c5, fun k q hq => ?_⟩
  match k, hq with
  | 0, hq => cases hq; exact h1
  | 1, hq => cases hq; exact h2
  | 2, hq => cases hq; exact h3
  | 3, hq => cases hq; exact h4
  | 4, hq => cases hq; exact h5
  | n + 5, hq => simp [im_tys] at hq
