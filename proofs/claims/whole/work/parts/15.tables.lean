/-! THE LAW'S OWN METHODS: tables of exceptions, calls of methods that throw -/
/-- the row that catches E at pc -/
def im_hand (X : im_E) (ow : Nat) : List (Nat × Nat × Nat × Nat) → Nat → Nat → Option Nat
  | [], _, _ => none
  | x :: r, pc, E => if x.1 ≤ pc ∧ pc < x.2.1 then (match X.2.2.2 ow x.2.2.2 with
      | some E' => if E' = E then some x.2.2.1 else if E = 1 ∧ E' = 0 then im_hand X ow r pc E else none
      | none => none) else im_hand X ow r pc E
/-- at the handler: the exception is stored and forgotten -/
def im_forg (d : im_J) (h : Nat) (L : List (Nat × Value)) : Option (Nat × List (Nat × Value)) := match decode d.2.1 h with
  | .ok (.astore_n i, 1) => if (i : Nat) < d.2.2.1 then some (h + 1, L.filter (fun q => !(q.1 == (i : Nat)) && !(q.1 + 1 == (i : Nat) && q.2.category == 2))) else none
  | .ok (.astore i, 2) => if i < d.2.2.1 then some (h + 2, L.filter (fun q => !(q.1 == i) && !(q.1 + 1 == i && q.2.category == 2))) else none
  | _ => none
/-- a call of a method with a table -/
def im_prepX (X : im_E) (d : im_J) (i : Instr) (F : im_F) : Option (im_J × List (Nat × Nat × Nat × Nat) × List Value × List Value) := match i with
  | .invokestatic k => match X.2.2.1 d.2.2.2.2.2.2 k with
    | some (d', hh) => if d'.2.2.1 ≤ 45 ∧ d'.2.2.2.2.1 ≤ F.2.2.1.length ∧ ((F.2.2.1.drop d'.2.2.2.2.1).map fun v => v.category).sum ≤ 8 ∧ (lg_sl (F.2.2.1.take d'.2.2.2.2.1).reverse).length ≤ d'.2.2.1 then some (d', hh, (F.2.2.1.take d'.2.2.2.2.1).reverse, F.2.2.1.drop d'.2.2.2.2.1) else none
    | none => none
  | _ => none
/-- THE RUN of such a method; also, how often was thrown -/
def im_runX (G : im_G) (X : im_E) : Nat → Nat → im_J → List (Nat × Nat × Nat × Nat) → im_F → Option (Option Value × im_M × Nat)
  | 0, _, _, _, _ => none
  | _ + 1, 0, _, _, _ => none
  | n + 1, dep + 1, d, hh, F => match decode d.2.1 F.1 with
    | .ok (i, len) => if im_isret i = true then (if len = 1 then (match im_ret d.2.2.2.1 i F with
        | some (v, M') => some (v, M', 0)
        | none => none) else none) else
      match im_prepX X d i F with
      | some (d', h', vs, rest) => if len = 3 then (match im_runX G X n dep d' h' (0, lv_args 0 vs, [], F.2.2.2) with
        | some (v, M', t) => (match im_runX G X n (dep + 1) d hh (F.1 + 3, F.2.1, v.toList ++ rest, M') with
          | some (v', M'', t') => some (v', M'', t + t')
          | none => none)
        | none => none) else none
      | none => match im_iscall G d i with
        | some (k, kd) => if len = 3 then (match im_prep G d.2.2.2.2.2.2 k kd F with
          | some (d', vs, rest) => (match im_run G n dep d' (0, lv_args 0 vs, [], F.2.2.2) with
            | some (v, M') => im_runX G X n (dep + 1) d hh (F.1 + 3, F.2.1, v.toList ++ rest, M')
            | none => if kd = 0 then (match im_thr G X n dep d' (0, lv_args 0 vs, [], F.2.2.2) with
              | some (E, M') => (match im_hand X d.2.2.2.2.2.2 hh F.1 E with
                | some h => (match im_forg d h F.2.1 with
                  | some (pc', L') => (match im_runX G X n (dep + 1) d hh (pc', L', [], M') with
                    | some (v', M'', t') => some (v', M'', t' + 1)
                    | none => none)
                  | none => none)
                | none => none)
              | none => none) else none)
          | none => none) else none
        | none => match im_nat G d i len F with
          | some F' => im_runX G X n (dep + 1) d hh F'
          | none => none
    | _ => none
def im_PcX (G : im_G) (EW : List Cond) (NC : List (String × String)) (D : va_G) (cy : Nat → ClassId) (ad : Nat → Nat) (z : Nat) (vs : List Value) (M : im_M) : Array Value → State → Prop := fun a U => im_Pc G D cy ad z vs M a U ∧ im_ZE EW NC z U U.heap
theorem im_PcX_blind {G : im_G} {EW : List Cond} {NC : List (String × String)} {D : va_G} {cy : Nat → ClassId} {ad : Nat → Nat} {z : Nat} {vs : List Value} {M : im_M} (hmv : im_mvE EW) : FrameBlind (im_PcX G EW NC D cy ad z vs M) := by
  intro a U g mk h
  exact ⟨im_Pc_blind a U g mk h.1, im_ZE.move (U := U.calling g mk a) hmv h.2 (State.WarmedH.refl U) (fun _ _ _ => rfl)⟩
def im_TX (G : im_G) (X : im_E) (EW : List Cond) (NC : List (String × String)) : Prop := (∀ (ow ct E : Nat), X.2.2.2 ow ct = some E → ct ≠ 0 ∧ Cond.classLink (ig_nm G ow) ct (X.1 E) ∈ ig_WS G ∧ Cond.castable (X.1 E) (X.1 E) ∈ EW) ∧ (X.1 1, X.1 0) ∈ NC ∧
  ∀ (ow k : Nat) (d : im_J) (hh : List (Nat × Nat × Nat × Nat)), X.2.2.1 ow k = some (d, hh) → Cond.codeWith d.1 d.2.1 d.2.2.1 d.2.2.2.1 hh ∈ ig_WS G ∧ plainName d.1.cls = true ∧ (d.1.cls ≠ "java/lang/invoke/MethodHandle" ∧ d.1.cls ≠ "java/lang/invoke/VarHandle" ∧ (parseMethodDescriptor d.1.desc).map (fun q => q.parameters.length) = some d.2.2.2.2.1) ∧ Cond.initialized d.1.cls ∈ ig_WS G ∧ ig_nm G d.2.2.2.2.2.2 = d.1.cls ∧ Cond.methodLink (ig_nm G ow) k d.1 ∈ ig_WS G ∧ Cond.static d.1 ∈ ig_WS G ∧ d.2.2.2.2.2.1 = 1
/-- a contract out of a run that ends with a throw -/
theorem im_metT {G : im_G} {X : im_E} {EW : List Cond} {NC : List (String × String)} {l : Launch} {D : va_G} {cy : Nat → ClassId} {ad : Nat → Nat} {z n dep j : Nat} {d : im_J} {vs : List Value} {M M' : im_M} {E : Nat} (HG : im_OK G) (HE : im_TE G X EW) (hmv : im_mvE EW) (htr : l.stackTraces = false) (had : ∀ i, i < 1000000 → ad i = z + i) (hj : ig_T G j = some d) (hvs : (lg_sl vs).length ≤ d.2.2.1) (hS : im_thr G X n dep d (0, lv_args 0 vs, [], M) = some (E, M')) :
    vx_Met l d.1 (.code d.1 d.2.1 d.2.2.1 d.2.2.2.1 :: ig_WS G) { frames := dep, cells := im_n M' - im_n M + 1, slots := im_tt G M' - im_tt G M + 6, locals := dep * 64 } (im_PcX G EW NC D cy ad z vs M) (fun _ _ _ _ => False) (im_XC G D cy ad z (X.1 E) M') (im_n M' - im_n M + 1) (im_tt G M' - im_tt G M + 6) (fun q => z ≤ q) := by
  obtain ⟨hcode, hplain, hnames, hini, hnm, hk0, hk1, hk2⟩ := HG.2.2.2.2.2.2.2.2.1 j d hj
  obtain ⟨-, hsafe⟩ := im_thr_sound (NC := NC) (l := l) (D := D) (cy := cy) HG HE hmv htr had n dep d _ E M' hS
  refine vx_ofW (cc := d.2.1) (maxL := d.2.2.1) (ret := d.2.2.2.1) hplain rfl ?_
  intro p e s m args below meth c s₁ B hml htab hv
  obtain ⟨⟨rfl, hH, hK, hX, hY, hz⟩, hZ⟩ := hv
  have hts0 := atoms_spec (ws := .code d.1 d.2.1 d.2.2.1 d.2.2.2.1 :: ig_WS G) B.pre
  have hown : s.vm.findClass (ig_nm G d.2.2.2.2.2.2) = some m.cls := by rw [hnm]; exact findClass_of_methodNamed B.named
  have hC : im_C p s m (vs.map (im_v ad)).toArray meth c d.2.1 D (ig_cl G) cy d.2.2.1 (ig_WS G) (ig_nm G d.2.2.2.2.2.2) (decide (2 ≤ d.2.2.2.2.2.1)) := ⟨B.exec, B.bytes, fun w hw => hts0 w (List.mem_cons_of_mem _ hw), hown, hK, fun hi => by
    have hk := (hk2 (of_decide_eq_true hi)).2.1
    rw [← hk]
    exact (name_of_methodNamed B.named B.method).1, hml⟩
  have hgo := hsafe p e ({ frames := dep, cells := im_n M' - im_n M + 1, slots := im_tt G M' - im_tt G M + 6, locals := dep * 64 } : Room) s m (vs.map (im_v ad)).toArray below meth c (fun _ _ _ _ => False) 0 0 (im_n M' - im_n M + 1) (im_tt G M' - im_tt G M + 6) hC hX hY hZ hz (Nat.le_refl _) (Nat.le_refl _) (by show 0 + (im_n M' - im_n M) + 1 ≤ im_n M' - im_n M + 1; omega) (by show 0 + (im_tt G M' - im_tt G M) + 6 ≤ im_tt G M' - im_tt G M + 6; omega) B.notSynchronized htab (by show 0 + (im_n M' - im_n M) + 1 ≤ im_n M' - im_n M + 1; omega) (by show 0 + (im_tt G M' - im_tt G M) + 6 ≤ im_tt G M' - im_tt G M + 6; omega)
  have hl := lv_entry (vs.map (im_v ad)) (n := d.2.2.1) (by rw [im_sl]; exact hvs)
  rw [lg_entry_eq]
  rw [← im_args] at hl
  exact hgo _ s.heap [] hl hH va_S.rf
/-- what a run of a method with a table is worth -/
def im_SafeX (G : im_G) (EW : List Cond) (NC : List (String × String)) (l : Launch) (D : va_G) (cy : Nat → ClassId) (ad : Nat → Nat) (z : Nat) (dep : Nat) (d : im_J) (hh : List (Nat × Nat × Nat × Nat)) (F : im_F) (v : Option Value) (M' : im_M) (t : Nat) : Prop :=
  ∀ (p : Program) (e : Env) (R : Room) (s : State) (m : MethodId) (args : Array Value) (below : List Frame) (meth : Method) (c : Code) (Q : State → Prop) (cells slots : Nat),
    im_C p s m args meth c d.2.1 D (ig_cl G) cy d.2.2.1 (ig_WS G) (ig_nm G d.2.2.2.2.2.2) (decide (2 ≤ d.2.2.2.2.2.1)) → im_XX G ad z s s.heap → im_Y G s → im_ZE EW NC z s s.heap → z ≤ s.heap.size → c.exceptionTable.toList = tableOf hh → dep ≤ R.frames → dep * 64 ≤ R.locals → cells + (im_n M' - im_n F.2.2.2) + t ≤ R.cells → slots + (im_tt G M' - im_tt G F.2.2.2) + 6 * t ≤ R.slots →
    (∀ (pc : Nat) (i : Instr) (ls : Array Slot) (H : Heap) (locs : List Loc), decode d.2.1 pc = .ok (i, 1) → im_rk d.2.2.2.1 i v → im_HH G D cy ad z M' H → va_S (fun q => z ≤ q) s.heap H locs → W p l e R s m args below meth c H locs (cells + (im_n M' - im_n F.2.2.2) + t) (slots + (im_tt G M' - im_tt G F.2.2.2) + 6 * t) Q (F0 m pc ls (v.toList.map (im_v ad)))) →
    im_Go p l e R s m args below meth c Q D (ig_cl G) (ig_ty G) cy ad z s.heap d.2.2.1 cells slots F
theorem im_metX {G : im_G} {X : im_E} {EW : List Cond} {NC : List (String × String)} {l : Launch} {D : va_G} {cy : Nat → ClassId} {ad : Nat → Nat} {z dep ow k t : Nat} {d : im_J} {hh : List (Nat × Nat × Nat × Nat)} {vs : List Value} {M M' : im_M} {v : Option Value} (HX : im_TX G X EW NC) (hj : X.2.2.1 ow k = some (d, hh)) (hvs : (lg_sl vs).length ≤ d.2.2.1) (hS : im_SafeX G EW NC l D cy ad z dep d hh (0, lv_args 0 vs, [], M) v M' t) :
    Met l d.1 (.codeWith d.1 d.2.1 d.2.2.1 d.2.2.2.1 hh :: ig_WS G) { frames := dep, cells := im_n M' - im_n M + t, slots := im_tt G M' - im_tt G M + 6 * t, locals := dep * 64 } (im_PcX G EW NC D cy ad z vs M) (im_Qc G D cy ad z v M') (im_n M' - im_n M + t) (im_tt G M' - im_tt G M + 6 * t) (fun q => z ≤ q) := by
  obtain ⟨hcode, hplain, hnames, hini, hnm, hlk, hst, hk1⟩ := HX.2.2 ow k d hh hj
  refine MetFree.of_bodyS (code := d.2.1) (maxLocals := d.2.2.1) (ret := d.2.2.2.1) hplain ?_ ?_
  · intro args s m h hn
    obtain ⟨m9, meth, c, hn9, h1, h2, h3, h4, -, h5, h6, -⟩ := Cond.codeWith_spec (atoms_spec (ws := .codeWith d.1 d.2.1 d.2.2.1 d.2.2.2.1 hh :: ig_WS G) h _ List.mem_cons_self)
    cases hn.symm.trans hn9
    exact ⟨meth, c, h1, h2, h3, h4, h5, h6⟩
  · intro p e s m args below meth c s₁ B hml hv _
    have hh0 : s₁.heap = s.heap := by rw [B.state]; rfl
    obtain ⟨⟨rfl, hH, hK, hX, hY, hz⟩, hZ⟩ := hv
    have hts0 := atoms_spec (ws := .codeWith d.1 d.2.1 d.2.2.1 d.2.2.2.1 hh :: ig_WS G) B.pre
    have htab := vx_table (x := d.1) B (hts0 _ List.mem_cons_self)
    have hown : s.vm.findClass (ig_nm G d.2.2.2.2.2.2) = some m.cls := by rw [hnm]; exact findClass_of_methodNamed B.named
    have hC : im_C p s m (vs.map (im_v ad)).toArray meth c d.2.1 D (ig_cl G) cy d.2.2.1 (ig_WS G) (ig_nm G d.2.2.2.2.2.2) (decide (2 ≤ d.2.2.2.2.2.1)) := ⟨B.exec, B.bytes, fun w hw => hts0 w (List.mem_cons_of_mem _ hw), hown, hK, fun hi => by
      have := of_decide_eq_true hi
      omega, hml⟩
    have hgo := hS p e ({ frames := dep, cells := im_n M' - im_n M + t, slots := im_tt G M' - im_tt G M + 6 * t, locals := dep * 64 } : Room) s m (vs.map (im_v ad)).toArray below meth c (MQ below (im_Qc G D cy ad z v M') (vs.map (im_v ad)).toArray s (im_n M' - im_n M + t) (im_tt G M' - im_tt G M + 6 * t) (fun q => z ≤ q)) 0 0 hC hX hY hZ hz htab (Nat.le_refl _) (Nat.le_refl _) (by show 0 + (im_n M' - im_n M) + t ≤ im_n M' - im_n M + t; omega) (by show 0 + (im_tt G M' - im_tt G M) + 6 * t ≤ im_tt G M' - im_tt G M + 6 * t; omega) ?_
    · have hl := lv_entry (vs.map (im_v ad)) (n := d.2.2.1) (by rw [im_sl]; exact hvs)
      rw [← im_args] at hl
      rw [lg_entry_eq]
      have hgo2 := hgo _ s.heap [] hl hH va_S.rf
      obtain ⟨t2, a1, o, b1, b2, b3⟩ := hgo2 s₁ hh0 (Stand.of_body B)
      exact ⟨t2, o, a1, b1, b2, ⟨b3.1, b3.2⟩⟩
    · intro pc i ls H locs hd hrk hH' hS'
      have e1 : 0 + (im_n M' - im_n M) + t = im_n M' - im_n M + t := by omega
      have e2 : 0 + (im_tt G M' - im_tt G M) + 6 * t = im_tt G M' - im_tt G M + 6 * t := by omega
      show W p l e _ s m _ below meth c H locs (0 + (im_n M' - im_n M) + t) (0 + (im_tt G M' - im_tt G M) + 6 * t) _ _
      rw [e1, e2]
      have hlocks := B.notSynchronized
      have hq : ∀ u : State, u.heap = H → s.WarmedH u.vm → im_Qc G D cy ad z v M' (vs.map (im_v ad)).toArray s (.returned (v.map (im_v ad))) u := fun u hu _ => ⟨rfl, by rw [hu]; exact hH', hS'.F hu⟩
      have hr := B.returns
      rcases hrk with ⟨rfl, h2, rfl⟩ | ⟨ft, x, rfl, h2, rfl, h3⟩ | ⟨x, rfl, h2, rfl⟩ | ⟨rt, a, rfl, h2, h3, rfl⟩
      · exact W.vret B.exec B.bytes (hr.trans h2) hq hS'.2.2 hd
      · exact W.zret B.exec B.bytes (hr.trans h2) h3 hq hS'.2.2 hd
      · exact W.lret B.exec B.bytes (hr.trans h2) hq hS'.2.2 hd
      · exact W.aret B.exec B.bytes (hr.trans h2) h3 (Or.inr ⟨_, rfl⟩) hq hS'.2.2 hd

