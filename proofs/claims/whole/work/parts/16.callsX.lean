/-! THE RUNS OF THE LAW'S OWN METHODS ARE SOUND -/
theorem im_prepX_spec {X : im_E} {d d' : im_J} {i : Instr} {F : im_F} {hh : List (Nat × Nat × Nat × Nat)} {vs rest : List Value} (h : im_prepX X d i F = some (d', hh, vs, rest)) : ∃ k, i = .invokestatic k ∧ X.2.2.1 d.2.2.2.2.2.2 k = some (d', hh) ∧ d'.2.2.1 ≤ 45 ∧ (rest.map fun v => v.category).sum ≤ 8 ∧ (lg_sl vs).length ≤ d'.2.2.1 ∧ vs.length = d'.2.2.2.2.1 ∧ F.2.2.1 = vs.reverse ++ rest := by
  cases i with
  | invokestatic k =>
    simp only [im_prepX] at h
    split at h
    · rename_i d2 h2 he
      split at h
      · rename_i hc
        cases h
        refine ⟨k, rfl, he, hc.1, hc.2.2.1, hc.2.2.2, ?_, ?_⟩
        · simp [hc.2.1]
        · simp
      · cases h
    · cases h
  | _ => cases h
/-- where the table catches -/
theorem im_hand_spec {G : im_G} {X : im_E} {EW : List Cond} {NC : List (String × String)} {z : Nat} {s : State} {args : Array Value} (HX : im_TX G X EW NC) (hts : ∀ w ∈ ig_WS G, w.before args s = true) (HZ : im_ZE EW NC z s s.heap) {ow pc E h : Nat} : ∀ {hh : List (Nat × Nat × Nat × Nat)}, im_hand X ow hh pc E = some h → ∃ (pre : List ExceptionTableEntry) (x : ExceptionTableEntry) (suf : List ExceptionTableEntry), tableOf hh = pre ++ x :: suf ∧ (∀ y ∈ pre, covers y pc = false ∨ (y.catchType ≠ 0 ∧ ∃ nm : String, (Cond.classLink (ig_nm G ow) y.catchType nm).before args s = true ∧ va_Nc (X.1 E) nm s)) ∧ covers x pc = true ∧ x.catchType ≠ 0 ∧ (Cond.classLink (ig_nm G ow) x.catchType (X.1 E)).before args s = true ∧ x.handlerPc = h := by
  intro hh
  induction hh with
  | nil => intro h1; cases h1
  | cons x r ih =>
    intro h1
    unfold im_hand at h1
    by_cases hc : x.1 ≤ pc ∧ pc < x.2.1
    · rw [if_pos hc] at h1
      have hcov : covers (⟨x.1, x.2.1, x.2.2.1, x.2.2.2⟩ : ExceptionTableEntry) pc = true := by simp [covers, hc.1, hc.2]
      cases hk : X.2.2.2 ow x.2.2.2 with
      | none => rw [hk] at h1; cases h1
      | some E' =>
        rw [hk] at h1
        simp only at h1
        obtain ⟨t1, t2, t3⟩ := HX.1 _ _ _ hk
        by_cases he : E' = E
        · subst he
          rw [if_pos rfl] at h1
          cases h1
          exact ⟨[], ⟨x.1, x.2.1, x.2.2.1, x.2.2.2⟩, tableOf r, rfl, fun y hy => (List.not_mem_nil hy).elim, hcov, t1, hts _ t2, rfl⟩
        · rw [if_neg he] at h1
          by_cases hq : E = 1 ∧ E' = 0
          · rw [if_pos hq] at h1
            obtain ⟨pre, y, suf, e1, e2, e3⟩ := ih h1
            refine ⟨⟨x.1, x.2.1, x.2.2.1, x.2.2.2⟩ :: pre, y, suf, ?_, ?_, e3⟩
            · show (⟨x.1, x.2.1, x.2.2.1, x.2.2.2⟩ : ExceptionTableEntry) :: tableOf r = _
              rw [e1]
              rfl
            · intro w hw
              rcases List.mem_cons.mp hw with rfl | hw
              · refine Or.inr ⟨t1, X.1 E', hts _ t2, ?_⟩
                rw [hq.1, hq.2]
                exact HZ.2.2.2 _ HX.2.1
              · exact e2 w hw
          · rw [if_neg hq] at h1
            cases h1
    · rw [if_neg hc] at h1
      obtain ⟨pre, y, suf, e1, e2, e3⟩ := ih h1
      refine ⟨⟨x.1, x.2.1, x.2.2.1, x.2.2.2⟩ :: pre, y, suf, ?_, ?_, e3⟩
      · show (⟨x.1, x.2.1, x.2.2.1, x.2.2.2⟩ : ExceptionTableEntry) :: tableOf r = _
        rw [e1]
        rfl
      · intro w hw
        rcases List.mem_cons.mp hw with rfl | hw
        · left
          simp only [covers]
          by_cases q : x.1 ≤ pc
          · have : ¬ pc < x.2.1 := fun q2 => hc ⟨q, q2⟩
            simp [this]
          · simp [q]
        · exact e2 w hw
theorem im_hand_cast {G : im_G} {X : im_E} {EW : List Cond} {NC : List (String × String)} (HX : im_TX G X EW NC) {ow pc E h : Nat} : ∀ {hh : List (Nat × Nat × Nat × Nat)}, im_hand X ow hh pc E = some h → Cond.castable (X.1 E) (X.1 E) ∈ EW := by
  intro hh
  induction hh with
  | nil => intro h1; cases h1
  | cons x r ih =>
    intro h1
    unfold im_hand at h1
    split at h1
    · split at h1
      · rename_i E' hk
        split at h1
        · rename_i he
          subst he
          exact (HX.1 _ _ _ hk).2.2
        · split at h1
          · exact ih h1
          · cases h1
      · cases h1
    · exact ih h1
section IMV
variable {p : Program} {l : Launch} {e : Env} {R : Room} {s : State} {m : MethodId} {args : Array Value} {below : List Frame} {meth : Method} {c : Code} {Q : State → Prop} {cells slots : Nat}
variable {G : im_G} {X : im_E} {EW : List Cond} {NC : List (String × String)} {D : va_G} {cy : Nat → ClassId} {ad : Nat → Nat} {z : Nat}
/-- the law calls a method with a table -/
theorem im_callX_ok {dep t : Nat} {i : Instr} {d d' : im_J} {hh : List (Nat × Nat × Nat × Nat)} {F : im_F} {vs rest : List Value} {v : Option Value} {M' : im_M} (HG : im_OK G) (HXX : im_TX G X EW NC) (hmv : im_mvE EW) (C : im_C p s m args meth c d.2.1 D (ig_cl G) cy d.2.2.1 (ig_WS G) (ig_nm G d.2.2.2.2.2.2) (decide (2 ≤ d.2.2.2.2.2.1))) (HX : im_XX G ad z s s.heap) (HY : im_Y G s) (HZ : im_ZE EW NC z s s.heap) (hz : z ≤ s.heap.size) (hRf : dep + 1 ≤ R.frames) (hRl : (dep + 1) * 64 ≤ R.locals)
    (hd : decode d.2.1 F.1 = .ok (i, 3)) (hp : im_prepX X d i F = some (d', hh, vs, rest)) (hSafe : im_SafeX G EW NC l D cy ad z dep d' hh (0, lv_args 0 vs, [], F.2.2.2) v M' t) (hcells : cells + (im_n M' - im_n F.2.2.2 + t) ≤ R.cells) (hslots : slots + (im_tt G M' - im_tt G F.2.2.2 + 6 * t) ≤ R.slots)
    (g : im_Go p l e R s m args below meth c Q D (ig_cl G) (ig_ty G) cy ad z s.heap d.2.2.1 (cells + (im_n M' - im_n F.2.2.2 + t)) (slots + (im_tt G M' - im_tt G F.2.2.2 + 6 * t)) (F.1 + 3, F.2.1, v.toList ++ rest, M')) : im_Go p l e R s m args below meth c Q D (ig_cl G) (ig_ty G) cy ad z s.heap d.2.2.1 cells slots F := by
  obtain ⟨hx, hb, hts, hown, hK, hin, hml⟩ := C
  obtain ⟨pc, L, st, M⟩ := F
  obtain ⟨k, rfl, hj, h45, hcat, hsl, hlen, hst⟩ := im_prepX_spec hp
  have hM := im_metX HXX hj hsl hSafe
  obtain ⟨w1, w2, w3, w4, wnm, w5, w6, w7⟩ := HXX.2.2 _ _ _ _ hj
  intro ls H locs hl hH hS
  have hroom : ({ frames := dep, cells := im_n M' - im_n M + t, slots := im_tt G M' - im_tt G M + 6 * t, locals := dep * 64 } : Room).frames + 1 ≤ R.frames ∧ 8 + (d'.2.2.1 + 11) + ({ frames := dep, cells := im_n M' - im_n M + t, slots := im_tt G M' - im_tt G M + 6 * t, locals := dep * 64 } : Room).locals ≤ R.locals := ⟨hRf, by
    show 8 + (d'.2.2.1 + 11) + dep * 64 ≤ R.locals
    omega⟩
  have hPc : ∀ U : State, U.heap = H → s.WarmedH U.vm → im_PcX G EW NC D cy ad z vs M (vs.map (im_v ad)).toArray U := fun U hU hW => ⟨⟨rfl, by rw [hU]; exact hH, va_K.moved hW.alike hK, by rw [hU]; exact im_X.move HX hW hS.2.1, HY.move hW, by rw [hU]; exact Nat.le_trans hz hS.1⟩, by rw [hU]; exact im_ZE.move hmv HZ hW hS.2.1⟩
  have hWr : 2 * (F0 m pc ls (st.map (im_v ad))).monitorRoom + ((rest.map (im_v ad)).map fun v => v.category).sum ≤ 8 := by
    show 2 * 0 + _ ≤ 8
    rw [im_cats]
    omega
  have hst' : st = vs.reverse ++ rest := hst
  have hend : ∀ (H1 : Heap) (locs1 : List Loc), im_HH G D cy ad z M' H1 → va_S (fun q => z ≤ q) s.heap H1 locs1 → W p l e R s m args below meth c H1 locs1 (cells + (im_n M' - im_n M + t)) (slots + (im_tt G M' - im_tt G M + 6 * t)) Q (F0 m (pc + 3) ls ((v.map (im_v ad)).toList ++ rest.map (im_v ad))) := by
    intro H1 locs1 hH1 hS1
    rw [im_toList]
    exact g ls H1 locs1 hl hH1 hS1
  refine im_callW (vx_runSW (As := vs.map (im_v ad)) (rest := rest.map (im_v ad)) ⟨hx, hb, hml, hown, hts⟩ hM (vx_cwSW d'.2.2.2.2.1 hts (im_goodA HG ?_) rfl rfl rfl w3 hroom) ⟨im_PcX_blind hmv, hPc⟩ rfl (by rw [List.length_map]; exact hlen) hl.1 (by show st.map (im_v ad) = _; rw [hst']; simp) hWr hd ⟨hcells, hslots⟩) hS hend
  intro w hw
  unfold va_wsS at hw
  rcases List.mem_append.mp hw with h | h
  · simp only [List.mem_cons, List.not_mem_nil, or_false] at h
    rcases h with rfl | rfl | rfl
    · exact w5
    · exact w6
    · exact w4
  · rcases List.mem_cons.mp h with rfl | h
    · exact w1
    · exact h
/-- a call that throws, caught -/
theorem im_callT_ok {n dep k E h pc' : Nat} {L' : List (Nat × Value)} {i : Instr} {d d' : im_J} {hh : List (Nat × Nat × Nat × Nat)} {F : im_F} {vs rest : List Value} {M' : im_M} (HG : im_OK G) (HE : im_TE G X EW) (HXX : im_TX G X EW NC) (hmv : im_mvE EW) (htr : l.stackTraces = false) (had : ∀ i, i < 1000000 → ad i = z + i) (C : im_C p s m args meth c d.2.1 D (ig_cl G) cy d.2.2.1 (ig_WS G) (ig_nm G d.2.2.2.2.2.2) (decide (2 ≤ d.2.2.2.2.2.1))) (HX : im_XX G ad z s s.heap) (HY : im_Y G s) (HZ : im_ZE EW NC z s s.heap) (hz : z ≤ s.heap.size) (htab : c.exceptionTable.toList = tableOf hh) (hRf : dep + 1 ≤ R.frames) (hRl : (dep + 1) * 64 ≤ R.locals)
    (hd : decode d.2.1 F.1 = .ok (i, 3)) (hi : im_iscall G d i = some (k, 0)) (hp : im_prep G d.2.2.2.2.2.2 k 0 F = some (d', vs, rest)) (hthr : im_thr G X n dep d' (0, lv_args 0 vs, [], F.2.2.2) = some (E, M')) (hhand : im_hand X d.2.2.2.2.2.2 hh F.1 E = some h) (hforg : im_forg d h F.2.1 = some (pc', L')) (hcells : cells + (im_n M' - im_n F.2.2.2 + 1) ≤ R.cells) (hslots : slots + (im_tt G M' - im_tt G F.2.2.2 + 6) ≤ R.slots)
    (g : im_Go p l e R s m args below meth c Q D (ig_cl G) (ig_ty G) cy ad z s.heap d.2.2.1 (cells + (im_n M' - im_n F.2.2.2 + 1)) (slots + (im_tt G M' - im_tt G F.2.2.2 + 6)) (pc', L', [], M')) : im_Go p l e R s m args below meth c Q D (ig_cl G) (ig_ty G) cy ad z s.heap d.2.2.1 cells slots F := by
  obtain ⟨hx, hb, hts, hown, hK, hin, hml⟩ := C
  obtain ⟨pc, L, st, M⟩ := F
  obtain ⟨j, hj1, hj2, hkd, h45, hcat, hsl, hform⟩ := im_prep_spec hp
  have hM := im_metT (NC := NC) (D := D) (cy := cy) (ad := ad) (z := z) HG HE hmv htr had hj2 hsl hthr
  obtain ⟨w1, w2, w3, w4, wnm, w5, w6, w7⟩ := HG.2.2.2.2.2.2.2.2.1 j d' hj2
  rcases hform with ⟨hq, -, -⟩ | ⟨hne, b, As, rfl, hlen, hst, hrecv⟩
  · cases hq
  · have hi' : i = .invokevirtual k := by
      cases i with
      | invokevirtual q => simp only [im_iscall] at hi; cases hi; rfl
      | invokestatic q => simp only [im_iscall] at hi; split at hi <;> simp at hi
      | invokespecial q => simp only [im_iscall] at hi; split at hi <;> first | (cases hi; done) | (split at hi <;> simp at hi)
      | _ => simp [im_iscall] at hi
    subst hi'
    intro ls H locs hl hH hS
    have hroom : ({ frames := dep, cells := im_n M' - im_n M + 1, slots := im_tt G M' - im_tt G M + 6, locals := dep * 64 } : Room).frames + 1 ≤ R.frames ∧ 8 + (d'.2.2.1 + 11) + ({ frames := dep, cells := im_n M' - im_n M + 1, slots := im_tt G M' - im_tt G M + 6, locals := dep * 64 } : Room).locals ≤ R.locals := ⟨hRf, by
      show 8 + (d'.2.2.1 + 11) + dep * 64 ≤ R.locals
      omega⟩
    have hPc : ∀ U : State, U.heap = H → s.WarmedH U.vm → im_PcX G EW NC D cy ad z (.ref b :: As) M ((Value.ref b :: As).map (im_v ad)).toArray U := fun U hU hW => ⟨⟨rfl, by rw [hU]; exact hH, va_K.moved hW.alike hK, by rw [hU]; exact im_X.move HX hW hS.2.1, HY.move hW, by rw [hU]; exact Nat.le_trans hz hS.1⟩, by rw [hU]; exact im_ZE.move hmv HZ hW hS.2.1⟩
    have hWr : 2 * (F0 m pc ls (st.map (im_v ad))).monitorRoom + ((rest.map (im_v ad)).map fun v => v.category).sum ≤ 8 := by
      show 2 * 0 + _ ≤ 8
      rw [im_cats]
      omega
    have hst' : st = As.reverse ++ .ref b :: rest := hst
    have hstk : st.map (im_v ad) = (As.map (im_v ad)).reverse ++ .ref (ad b) :: rest.map (im_v ad) := by
      rw [hst']
      simp [im_v]
    have hlink := HG.2.2.2.2.2.2.2.2.2.1 d.2.2.2.2.2.2 k j d' hj1 hj2 (by rw [hkd]; decide)
    have hcell : ∃ cellB : Cell, H[ad b]? = some cellB ∧ cellB.vm.isStatics = false ∧ s.vm.findClass d'.1.cls = some cellB.cls := by
      rcases hrecv rfl with ⟨r1, r2, r3⟩ | ⟨r1, r2⟩
      · cases hq : (ig_cl G)[(im_k M b).1]? with
        | none => simp only at r3; rw [hq] at r3; cases r3
        | some q =>
          simp only at r3
          rw [hq] at r3
          have r4 : q.1 = d'.1.cls := Option.some.inj r3
          rw [← r4]
          exact va_recv hK hH.1 hq (by rw [im_ws_at r1, im_ent_o rfl r2])
      · obtain ⟨cell, q1, q2, q3, -⟩ := (HX.2.2.2.1 b r1).1.kept hS.2.1
        exact ⟨cell, q1, q2, by rw [r2]; exact q3⟩
    have hrun := vx_runV (p := p) (e := e) (below := below) (meth := meth) (locs := locs) (cells := cells) (slots := slots) (g := F0 m pc ls (st.map (im_v ad))) (As := As.map (im_v ad)) (rest := rest.map (im_v ad)) ⟨hx, hb, hml, hown, hts⟩ hM (cwV (R := R) d'.2.2.2.2.1 hts (im_goodA HG (by
      intro w hw
      unfold wsV at hw
      rcases List.mem_append.mp hw with h | h
      · simp only [List.mem_cons, List.not_mem_nil, or_false] at h
        rcases h with rfl | rfl | rfl | rfl
        · exact hlink
        · exact (w5 hkd).1
        · exact (w5 hkd).2
        · exact w4
      · rcases List.mem_cons.mp h with rfl | h
        · exact w1
        · exact h)) rfl rfl rfl ⟨rfl, w3⟩ hroom) ⟨im_PcX_blind hmv, hcell, hPc⟩ rfl (by rw [List.length_map]; exact hlen) hl.1 hstk hWr hd ⟨hcells, hslots⟩
    intro T hT Y
    rcases hrun T hT Y with ⟨v, st₀, t, T', Lc, h0, X', hL, e1, e2, hF, st9⟩ | ⟨q, st₀, t, T', Lc, E9, ce, h0, X', hL, e1, e2, ⟨hE9, hH9, hz9, hk9⟩, hce, hcv, hcl, st9⟩
    · exact hF.elim
    · subst hE9
      rw [h0] at hz9 hk9
      have hS1 : va_S (fun q => z ≤ q) s.heap T'.heap (locs ++ Lc) := ⟨Nat.le_trans hS.1 (by rw [e1]; exact hz9), fun q q1 q2 => by rw [e1, hk9 q (Nat.lt_of_lt_of_le q1 hS.1) q2]; exact hS.2.1 q q1 q2, fun q hq => by
        rcases List.mem_append.mp hq with h | h
        · exact hS.2.2 q h
        · exact hL q h⟩
      obtain ⟨pre, x, suf, t1, t2, t3, t4, t5, t6⟩ := im_hand_spec HXX hts HZ hhand
      have hcast := va_Nw.use (A := args) rfl (HZ.1 _ (im_hand_cast HXX hhand))
      have hW9 : vx_W p l e R s m args below meth c T'.heap (locs ++ Lc) (cells + (im_n M' - im_n M + 1)) (slots + (im_tt G M' - im_tt G M + 6)) Q (F0 m pc ls (rest.map (im_v ad))) q := by
        refine vx_catch hown pre x suf (htab.trans t1) t2 t3 t4 t5 hcast (by rw [e1]; exact hce) hcv hcl ?_
        rw [t6]
        unfold im_forg at hforg
        split at hforg
        · rename_i ix hdd
          split at hforg
          · rename_i hlt
            cases hforg
            refine lv_astore_n hx hb hdd rfl hl hlt rfl (fun ls' hl' => ?_)
            refine g ls' T'.heap _ ?_ (by show im_H _ _ _ _ _ _ _ _; rw [e1]; exact hH9) hS1
            refine ⟨hl'.1, hl'.2.1, fun w hw => hl'.2.2 w (List.mem_cons_of_mem _ ?_)⟩
            have e5 : im_L ad (L.filter (fun q => !(q.1 == (ix : Nat)) && !(q.1 + 1 == (ix : Nat) && q.2.category == 2))) = (im_L ad L).filter (fun q => !(q.1 == (ix : Nat)) && !(q.1 + 1 == (ix : Nat) && q.2.category == 2)) := by
              have := im_L_st1 (ad := ad) (L := L) (i := (ix : Nat)) (v := .null) rfl
              exact (List.cons.inj this).2.symm
            exact e5 ▸ hw
          · cases hforg
        · rename_i ix hdd
          split at hforg
          · rename_i hlt
            cases hforg
            refine lv_astore hx hb hdd hl hlt rfl (fun ls' hl' => ?_)
            refine g ls' T'.heap _ ?_ (by show im_H _ _ _ _ _ _ _ _; rw [e1]; exact hH9) hS1
            refine ⟨hl'.1, hl'.2.1, fun w hw => hl'.2.2 w (List.mem_cons_of_mem _ ?_)⟩
            have e5 : im_L ad (L.filter (fun q => !(q.1 == ix) && !(q.1 + 1 == ix && q.2.category == 2))) = (im_L ad L).filter (fun q => !(q.1 == ix) && !(q.1 + 1 == ix && q.2.category == 2)) := by
              have := im_L_st1 (ad := ad) (L := L) (i := ix) (v := .null) rfl
              exact (List.cons.inj this).2.symm
            exact e5 ▸ hw
          · cases hforg
        · cases hforg
      obtain ⟨t2', a1, b1⟩ := hW9 T' rfl X'
      exact ⟨t2', st9.trans a1, b1⟩
end IMV

