/-! THE RUN IS SOUND -/
def im_tt (G : im_G) (M : im_M) : Nat := im_tot (ig_cl G) (im_k M) (im_n M)
def im_TM (G : im_G) : Prop := ∀ (j : Nat) (d : im_J), ig_T G j = some d → Cond.code d.1 d.2.1 d.2.2.1 d.2.2.2.1 ∈ ig_WS G ∧ plainFor d.1 = true ∧ (d.1.cls ≠ "java/lang/invoke/MethodHandle" ∧ d.1.cls ≠ "java/lang/invoke/VarHandle" ∧ (parseMethodDescriptor d.1.desc).map (fun q => q.parameters.length) = some d.2.2.2.2.1) ∧ Cond.initialized d.1.cls ∈ ig_WS G ∧ ig_nm G d.2.2.2.2.2.2 = d.1.cls ∧ (d.2.2.2.2.2.1 = 0 → Cond.instanceMethod d.1 ∈ ig_WS G ∧ Cond.selects d.1.cls d.1 d.1 ∈ ig_WS G) ∧ (d.2.2.2.2.2.1 = 1 → Cond.static d.1 ∈ ig_WS G) ∧ (2 ≤ d.2.2.2.2.2.1 → Cond.instanceMethod d.1 ∈ ig_WS G ∧ d.1.name = "<init>" ∧ d.2.2.2.1 = none)
def im_TL (G : im_G) : Prop := ∀ (ow k j : Nat) (d : im_J), ig_cal G ow k = some j → ig_T G j = some d → d.2.2.2.2.2.1 ≠ 3 → Cond.methodLink (ig_nm G ow) k d.1 ∈ ig_WS G
/-- links to nest mates' makers -/
def im_Y (G : im_G) (U : State) : Prop := ∀ (ow k j : Nat) (d : im_J) (h : String), ig_ho G ow k = some h → ig_cal G ow k = some j → ig_T G j = some d → va_Nw (.methodLinkNest (ig_nm G ow) k d.1 h) U
theorem im_Y.move {G : im_G} {s U : State} (h : im_Y G s) (hW : s.WarmedH U.vm) : im_Y G U := fun ow k j d h' e1 e2 e3 => va_Nw.warmM hW (h ow k j d h' e1 e2 e3)
def im_OK (G : im_G) : Prop := im_TC (ig_cl G) (ig_ty G) (ig_WS G) ∧ im_TF (ig_cl G) (ig_WS G) (ig_nm G) (ig_fT G) ∧ im_TK (ig_WS G) (ig_nm G) (ig_cT G) ∧ im_TV (ig_WS G) (ig_nm G) (ig_vT G) ∧ im_TA (ig_WS G) (ig_nm G) (ig_aT G) ∧ im_TO (ig_WS G) (ig_nm G) (ig_oT G) ∧ im_TN (ig_cl G) (ig_ty G) (ig_WS G) (ig_nm G) (ig_nT G) ∧ im_TR (ig_WS G) ∧ im_TM G ∧ im_TL G ∧ ∀ w ∈ ig_WS G, goodWord w = true
def im_XX (G : im_G) (ad : Nat → Nat) (z : Nat) (U : State) (H : Heap) : Prop := im_X (ig_WS G) (ig_nm G) ad z (ig_gT G) (ig_xk G) (ig_xi G) (ig_sT G) U H
def im_HH (G : im_G) (D : va_G) (cy : Nat → ClassId) (ad : Nat → Nat) (z : Nat) (M : im_M) (H : Heap) : Prop := im_H D (ig_cl G) (ig_ty G) cy ad z M H
/-- how a method ends -/
def im_rk (ret : Option FieldType) (i : Instr) (v : Option Value) : Prop :=
  (i = .return_ ∧ ret = none ∧ v = none) ∨ (∃ (t : FieldType) (x : Int32), i = .ireturn ∧ ret = some t ∧ v = some (.int x) ∧ narrow t (.int x) = .int x) ∨ (∃ x : Int64, i = .lreturn ∧ ret = some .long ∧ v = some (.long x)) ∨ ∃ (rt : FieldType) (a : Nat), i = .areturn ∧ ret = some rt ∧ ((∃ n, rt = .object n) ∨ ∃ t, rt = .array t) ∧ v = some (.ref a)
theorem im_ret_spec {ret : Option FieldType} {i : Instr} {F : im_F} {v : Option Value} {M' : im_M} (h : im_ret ret i F = some (v, M')) : F.2.2.1 = v.toList ∧ F.2.2.2 = M' ∧ im_rk ret i v := by
  obtain ⟨pc, L, st, M⟩ := F
  cases i with
  | return_ =>
    simp only [im_ret] at h
    split at h
    · rename_i hc
      cases h
      exact ⟨hc.2, rfl, Or.inl ⟨rfl, hc.1, rfl⟩⟩
    · cases h
  | ireturn =>
    simp only [im_ret] at h
    split at h
    · split at h
      · rename_i hc
        cases h
        exact ⟨rfl, rfl, Or.inr (Or.inl ⟨_, _, rfl, rfl, rfl, hc⟩)⟩
      · cases h
    · cases h
  | lreturn =>
    simp only [im_ret] at h
    split at h
    · rename_i e1
      cases h
      cases e1
      exact ⟨rfl, rfl, Or.inr (Or.inr (Or.inl ⟨_, rfl, rfl, rfl⟩))⟩
    · cases h
  | areturn =>
    simp only [im_ret] at h
    split at h
    · cases h
      exact ⟨rfl, rfl, Or.inr (Or.inr (Or.inr ⟨_, _, rfl, rfl, Or.inl ⟨_, rfl⟩, rfl⟩))⟩
    · cases h
      exact ⟨rfl, rfl, Or.inr (Or.inr (Or.inr ⟨_, _, rfl, rfl, Or.inr ⟨_, rfl⟩, rfl⟩))⟩
    · cases h
  | _ => cases h
/-- a method's start and end, as contracts have them -/
def im_Pc (G : im_G) (D : va_G) (cy : Nat → ClassId) (ad : Nat → Nat) (z : Nat) (vs : List Value) (M : im_M) : Array Value → State → Prop := va_Pc (vs.map (im_v ad)) (fun U => im_HH G D cy ad z M U.heap ∧ va_K D (ig_cl G) (im_tys cy) U ∧ im_XX G ad z U U.heap ∧ im_Y G U ∧ z ≤ U.heap.size)
def im_Qc (G : im_G) (D : va_G) (cy : Nat → ClassId) (ad : Nat → Nat) (z : Nat) (v : Option Value) (M' : im_M) : Array Value → State → Outcome → State → Prop := fun _ st oc t => oc = .returned (v.map (im_v ad)) ∧ im_HH G D cy ad z M' t.heap ∧ va_F (fun q => z ≤ q) st t
theorem im_Pc_blind {G : im_G} {D : va_G} {cy : Nat → ClassId} {ad : Nat → Nat} {z : Nat} {vs : List Value} {M : im_M} : FrameBlind (im_Pc G D cy ad z vs M) := by
  intro a U g mk h
  obtain ⟨h1, h2, h3, h4, h5, h6⟩ := h
  have hW : U.WarmedH (U.calling g mk a).vm := State.WarmedH.refl U
  exact ⟨h1, h2, va_K.moved (u := U) (U := U.calling g mk a) (Vm.Alike.refl U.vm) h3, im_X.move h4 hW (fun _ _ _ => rfl), h5.move hW, h6⟩
theorem im_args {ad : Nat → Nat} (vs : List Value) : ∀ i, im_L ad (lv_args i vs) = lv_args i (vs.map (im_v ad)) := by
  induction vs with
  | nil => intro i; rfl
  | cons v vs ih =>
    intro i
    show (i, im_v ad v) :: im_L ad (lv_args (if v.category = 2 then i + 2 else i + 1) vs) = (i, im_v ad v) :: lv_args (if (im_v ad v).category = 2 then i + 2 else i + 1) (vs.map (im_v ad))
    rw [ih, im_v_cat]
theorem im_sl {ad : Nat → Nat} (vs : List Value) : (lg_sl (vs.map (im_v ad))).length = (lg_sl vs).length := by
  induction vs with
  | nil => rfl
  | cons v vs ih =>
    simp only [lg_sl, List.map_cons, List.flatMap_cons, List.length_append, im_v_cat] at ih ⊢
    rw [ih]
    congr 1
    by_cases h : v.category = 2 <;> simp [h]
theorem im_cats {ad : Nat → Nat} (r : List Value) : ((r.map (im_v ad)).map fun v => v.category).sum = (r.map fun v => v.category).sum := by
  rw [List.map_map]
  congr 2
  funext v
  exact im_v_cat ad v
theorem im_toList {ad : Nat → Nat} (v : Option Value) (r : List Value) : (v.map (im_v ad)).toList ++ r.map (im_v ad) = (v.toList ++ r).map (im_v ad) := by cases v <;> rfl
section IMR
variable {p : Program} {l : Launch} {e : Env} {R : Room} {s : State} {m : MethodId} {args : Array Value} {below : List Frame} {meth : Method} {c : Code} {Q : State → Prop} {cc : ByteArray} {cells slots : Nat}
variable {G : im_G} {D : va_G} {cy : Nat → ClassId} {ad : Nat → Nat} {z : Nat}
theorem im_callW {H : Heap} {locs : List Loc} {mc ms pc : Nat} {ls : Array Slot} {st0 rest : List Value} {v : Option Value} {M' : im_M} {a : Array Value} (hr : va_Run p l e R s m args below meth c H locs cells slots mc ms (F0 m pc ls st0) rest (im_Qc G D cy ad z v M' a) (fun q => z ≤ q)) (hS : va_S (fun q => z ≤ q) s.heap H locs)
    (kk : ∀ (H1 : Heap) (locs1 : List Loc), im_HH G D cy ad z M' H1 → va_S (fun q => z ≤ q) s.heap H1 locs1 → W p l e R s m args below meth c H1 locs1 (cells + mc) (slots + ms) Q (F0 m (pc + 3) ls ((v.map (im_v ad)).toList ++ rest))) : W p l e R s m args below meth c H locs cells slots Q (F0 m pc ls st0) := by
  intro T hT X
  obtain ⟨w, st₀, t, T', L, h0, X', hL, e1, e2, ⟨hv, hH, hz, hk⟩, st⟩ := hr T hT X
  cases hv
  rw [h0] at hz hk
  obtain ⟨t2, a1, b1⟩ := kk T'.heap (locs ++ L) (by rw [e1]; exact hH) ⟨Nat.le_trans hS.1 (by rw [e1]; exact hz), fun q h1 h2 => by rw [e1, hk q (Nat.lt_of_lt_of_le h1 hS.1) h2]; exact hS.2.1 q h1 h2, fun q hq => by
      rcases List.mem_append.mp hq with h | h
      · exact hS.2.2 q h
      · exact hL q h⟩ T' rfl X'
  exact ⟨t2, st t2 a1, b1⟩
end IMR
/-- what a run of a method is worth -/
def im_Safe (G : im_G) (l : Launch) (D : va_G) (cy : Nat → ClassId) (ad : Nat → Nat) (z : Nat) (dep : Nat) (d : im_J) (F : im_F) (v : Option Value) (M' : im_M) : Prop :=
  ∀ (p : Program) (e : Env) (R : Room) (s : State) (m : MethodId) (args : Array Value) (below : List Frame) (meth : Method) (c : Code) (Q : State → Prop) (cells slots : Nat),
    im_C p s m args meth c d.2.1 D (ig_cl G) cy d.2.2.1 (ig_WS G) (ig_nm G d.2.2.2.2.2.2) (decide (2 ≤ d.2.2.2.2.2.1)) → im_XX G ad z s s.heap → im_Y G s → z ≤ s.heap.size → dep ≤ R.frames → dep * 64 ≤ R.locals → cells + (im_n M' - im_n F.2.2.2) ≤ R.cells → slots + (im_tt G M' - im_tt G F.2.2.2) ≤ R.slots →
    (∀ (pc : Nat) (i : Instr) (ls : Array Slot) (H : Heap) (locs : List Loc), decode d.2.1 pc = .ok (i, 1) → im_rk d.2.2.2.1 i v → im_HH G D cy ad z M' H → va_S (fun q => z ≤ q) s.heap H locs → W p l e R s m args below meth c H locs (cells + (im_n M' - im_n F.2.2.2)) (slots + (im_tt G M' - im_tt G F.2.2.2)) Q (F0 m pc ls (v.toList.map (im_v ad)))) →
    im_Go p l e R s m args below meth c Q D (ig_cl G) (ig_ty G) cy ad z s.heap d.2.2.1 cells slots F
/-- a contract out of a walk, also where the class has rows of natives but the method hasn't -/
theorem im_ofW {l : Launch} {y : MethodName} {ws ws' : List Cond} {rm : Room} {Pc : Array Value → State → Prop} {Qc : Array Value → State → Outcome → State → Prop} {mc ms : Nat} {free : Addr → Prop} {cc : ByteArray} {maxL : Nat} {ret : Option FieldType}
    (hy : plainFor y = true) (hw : ws = Cond.code y cc maxL ret :: ws')
    (body : ∀ p e s m args below meth c s₁, BodyLoose p l y (headSpec ws rm) cc maxL ret e s m args below meth c s₁ → c.maxLocals = maxL → Pc args s →
      W p l e (headSpec ws rm).room s m args below meth c s.heap [] 0 0 (MQ below Qc args s mc ms free) (entryFrame m args maxL)) : Met l y ws rm Pc Qc mc ms free := by
  refine MetFree.of_bodySF (code := cc) (maxLocals := maxL) (ret := ret) hy ?_ ?_
  · intro args s m h hn
    obtain ⟨meth, c, h1, h2, h3, h4, h5, h6, -, -⟩ := Cond.code_spec hn (atoms_spec (ws := ws) h _ (by rw [hw]; exact List.mem_cons_self))
    exact ⟨meth, c, h1, h2, h3, h4, h5, h6⟩
  · intro p e s m args below meth c s₁ B hml hP _
    have hh0 : s₁.heap = s.heap := by rw [B.state]; rfl
    obtain ⟨t, a1, o, b1, b2, b3⟩ := body p e s m args below meth c s₁ B hml hP s₁ hh0 (Stand.of_body B)
    exact ⟨t, o, a1, b1, b2, ⟨b3.1, b3.2⟩⟩
/-- a contract out of a run -/
theorem im_met {G : im_G} {l : Launch} {D : va_G} {cy : Nat → ClassId} {ad : Nat → Nat} {z dep j : Nat} {d : im_J} {vs : List Value} {M M' : im_M} {v : Option Value} (HG : im_OK G) (hj : ig_T G j = some d) (hvs : (lg_sl vs).length ≤ d.2.2.1) (hS : im_Safe G l D cy ad z dep d (0, lv_args 0 vs, [], M) v M') :
    Met l d.1 (.code d.1 d.2.1 d.2.2.1 d.2.2.2.1 :: ig_WS G) { frames := dep, cells := im_n M' - im_n M, slots := im_tt G M' - im_tt G M, locals := dep * 64 } (im_Pc G D cy ad z vs M) (im_Qc G D cy ad z v M') (im_n M' - im_n M) (im_tt G M' - im_tt G M) (fun q => z ≤ q) := by
  obtain ⟨hcode, hplain, hnames, hini, hnm, hk0, hk1, hk2⟩ := HG.2.2.2.2.2.2.2.2.1 j d hj
  refine im_ofW (cc := d.2.1) (maxL := d.2.2.1) (ret := d.2.2.2.1) hplain rfl ?_
  intro p e s m args below meth c s₁ B hml hv
  obtain ⟨rfl, hH, hK, hX, hY, hz⟩ := hv
  have hts0 := atoms_spec (ws := .code d.1 d.2.1 d.2.2.1 d.2.2.2.1 :: ig_WS G) B.pre
  have hown : s.vm.findClass (ig_nm G d.2.2.2.2.2.2) = some m.cls := by rw [hnm]; exact findClass_of_methodNamed B.named
  have hlocks := B.notSynchronized
  have hC : im_C p s m (vs.map (im_v ad)).toArray meth c d.2.1 D (ig_cl G) cy d.2.2.1 (ig_WS G) (ig_nm G d.2.2.2.2.2.2) (decide (2 ≤ d.2.2.2.2.2.1)) := ⟨B.exec, B.bytes, fun w hw => hts0 w (List.mem_cons_of_mem _ hw), hown, hK, fun hi => by
    have hk := (hk2 (of_decide_eq_true hi)).2.1
    rw [← hk]
    exact (name_of_methodNamed B.named B.method).1, hml⟩
  have hgo := hS p e ({ frames := dep, cells := im_n M' - im_n M, slots := im_tt G M' - im_tt G M, locals := dep * 64 } : Room) s m (vs.map (im_v ad)).toArray below meth c (MQ below (im_Qc G D cy ad z v M') (vs.map (im_v ad)).toArray s (im_n M' - im_n M) (im_tt G M' - im_tt G M) (fun q => z ≤ q)) 0 0 hC hX hY hz (Nat.le_refl _) (Nat.le_refl _) (by show 0 + (im_n M' - im_n M) ≤ im_n M' - im_n M; omega) (by show 0 + (im_tt G M' - im_tt G M) ≤ im_tt G M' - im_tt G M; omega) ?_
  · have hl := lv_entry (vs.map (im_v ad)) (n := d.2.2.1) (by rw [im_sl]; exact hvs)
    rw [lg_entry_eq]
    rw [← im_args] at hl
    exact hgo _ s.heap [] hl hH va_S.rf
  · intro pc i ls H locs hd hrk hH' hS'
    have e1 : 0 + (im_n M' - im_n M) = im_n M' - im_n M := Nat.zero_add _
    have e2 : 0 + (im_tt G M' - im_tt G M) = im_tt G M' - im_tt G M := Nat.zero_add _
    show W p l e _ s m _ below meth c H locs (0 + (im_n M' - im_n M)) (0 + (im_tt G M' - im_tt G M)) _ _
    rw [e1, e2]
    have hq : ∀ t : State, t.heap = H → s.WarmedH t.vm → im_Qc G D cy ad z v M' (vs.map (im_v ad)).toArray s (.returned (v.map (im_v ad))) t := fun t ht _ => ⟨rfl, by rw [ht]; exact hH', hS'.F ht⟩
    have hr := B.returns
    rcases hrk with ⟨rfl, h2, rfl⟩ | ⟨t, x, rfl, h2, rfl, h3⟩ | ⟨x, rfl, h2, rfl⟩ | ⟨rt, a, rfl, h2, h3, rfl⟩
    · exact W.vret B.exec B.bytes (hr.trans h2) hq hS'.2.2 hd
    · exact W.zret B.exec B.bytes (hr.trans h2) h3 hq hS'.2.2 hd
    · exact W.lret B.exec B.bytes (hr.trans h2) hq hS'.2.2 hd
    · exact W.aret B.exec B.bytes (hr.trans h2) h3 (Or.inr ⟨_, rfl⟩) hq hS'.2.2 hd

theorem im_prep_spec {G : im_G} {ow k kd : Nat} {F : im_F} {d : im_J} {vs rest : List Value} (h : im_prep G ow k kd F = some (d, vs, rest)) : ∃ j, ig_cal G ow k = some j ∧ ig_T G j = some d ∧ d.2.2.2.2.2.1 = kd ∧ d.2.2.1 ≤ 45 ∧ (rest.map fun v => v.category).sum ≤ 8 ∧ (lg_sl vs).length ≤ d.2.2.1 ∧
    ((kd = 1 ∧ vs.length = d.2.2.2.2.1 ∧ F.2.2.1 = vs.reverse ++ rest) ∨ (kd ≠ 1 ∧ ∃ (b : Nat) (As : List Value), vs = .ref b :: As ∧ As.length = d.2.2.2.2.1 ∧ F.2.2.1 = As.reverse ++ .ref b :: rest ∧ (kd = 0 → (b < im_n F.2.2.2 ∧ (im_k F.2.2.2 b).1 < 32 ∧ ((ig_cl G)[(im_k F.2.2.2 b).1]?).map (fun q => q.1) = some d.1.cls) ∨ ((ig_xk G b).1 = 50 ∧ d.1.cls = "java/lang/String")))) := by
  unfold im_prep at h
  split at h
  · cases h
  · rename_i j hj
    split at h
    · cases h
    · rename_i d' hd'
      split at h
      · rename_i hc
        obtain ⟨c1, c2, c3⟩ := hc
        split at h
        · rename_i hk1
          split at h
          · rename_i hc2
            cases h
            refine ⟨j, hj, hd', c1, c2, hc2.1, hc2.2, Or.inl ⟨hk1, ?_, ?_⟩⟩
            · simp [c3]
            · simp
          · cases h
        · rename_i hk1
          split at h
          · rename_i b r hdr
            split at h
            · rename_i hc2
              cases h
              refine ⟨j, hj, hd', c1, c2, hc2.1, hc2.2.1, Or.inr ⟨hk1, b, _, rfl, ?_, ?_, hc2.2.2⟩⟩
              · simp [c3]
              · rw [← hdr]; simp
            · cases h
          · cases h
      · cases h
theorem im_good {G : im_G} (HG : im_OK G) {d : im_J} (hc : Cond.code d.1 d.2.1 d.2.2.1 d.2.2.2.1 ∈ ig_WS G) : GoodIn (ig_WS G) (.code d.1 d.2.1 d.2.2.1 d.2.2.2.1 :: ig_WS G) := by
  intro w hw
  have hg := HG.2.2.2.2.2.2.2.2.2.2
  rcases List.mem_cons.mp hw with rfl | h
  · exact ⟨hc, good_of_word (hg _ hc)⟩
  · exact ⟨h, good_of_word (hg _ h)⟩
theorem im_goodA {G : im_G} (HG : im_OK G) {ws : List Cond} (h : ∀ w ∈ ws, w ∈ ig_WS G) : GoodIn (ig_WS G) ws := fun w hw => ⟨h w hw, good_of_word (HG.2.2.2.2.2.2.2.2.2.2 _ (h w hw))⟩

