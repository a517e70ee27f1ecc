/-! METHODS THAT THROW -/
/-- names of exceptions; 'throw new E()' by its class link (with the link of the maker); the law's own methods with tables, by their links; what a row of a table catches -/
abbrev im_E : Type := (Nat → String) × (Nat → Nat → Option (Nat × Nat)) × (Nat → Nat → Option (im_J × List (Nat × Nat × Nat × Nat))) × (Nat → Nat → Option Nat)
def im_noX (M : im_M) : im_M := (im_n M, false, im_k M, im_i M, im_l M, im_r M)
def im_names : List String := ["java/lang/RuntimeException", "java/lang/Exception"]
/-- is 'throw new E()' written here? -/
def im_isthr (X : im_E) (d : im_J) (i : Instr) (F : im_F) : Option Nat := match i with
  | .new k => match X.2.1 d.2.2.2.2.2.2 k with
    | some (E, ic) => if decode d.2.1 (F.1 + 3) = .ok (.dup, 1) ∧ decode d.2.1 (F.1 + 4) = .ok (.invokespecial ic, 3) ∧ decode d.2.1 (F.1 + 7) = .ok (.athrow, 1) ∧ (F.2.2.1.map fun v => v.category).sum ≤ 8 then some E else none
    | none => none
  | _ => none
/-- a run that ends with a throw -/
def im_thr (G : im_G) (X : im_E) : Nat → Nat → im_J → im_F → Option (Nat × im_M)
  | 0, _, _, _ => none
  | _ + 1, 0, _, _ => none
  | n + 1, dep + 1, d, F => match decode d.2.1 F.1 with
    | .ok (i, len) => match im_isthr X d i F with
      | some E => if len = 3 ∧ 6 ≤ dep + 1 then some (E, im_noX F.2.2.2) else none
      | none => if im_isret i = true then none else
        match im_iscall G d i with
        | some (k, kd) => if len = 3 then (match im_prep G d.2.2.2.2.2.2 k kd F with
          | some (d', vs, rest) => (match im_run G n dep d' (0, lv_args 0 vs, [], F.2.2.2) with
              | some (v, M') => im_thr G X n (dep + 1) d (F.1 + 3, F.2.1, v.toList ++ rest, M')
              | none => none)
          | none => none) else none
        | none => match im_nat G d i len F with
          | some F' => im_thr G X n (dep + 1) d F'
          | none => none
    | _ => none
/-- what the start must say for a throw -/
def im_ZE (EW : List Cond) (NC : List (String × String)) (z : Nat) (U : State) (H : Heap) : Prop := (∀ w ∈ EW, va_Nw w U) ∧ vx_Zq Bundle.tN "UNASSIGNED_STACK" Bundle.steD (fun q => z ≤ q) U H ∧ vx_Zq Bundle.tN "SUPPRESSED_SENTINEL" Bundle.listD (fun q => z ≤ q) U H ∧ ∀ q ∈ NC, va_Nc q.1 q.2 U
def im_mvE (EW : List Cond) : Prop := ∀ w ∈ EW, (∃ x, w = .declares x) ∨ ∃ C T, w = .castable C T
theorem im_Nc.move {C T : String} {s U : State} (h : va_Nc C T s) (hW : s.WarmedH U.vm) : va_Nc C T U := by
  obtain ⟨a, b, h1, h2, h3⟩ := h
  exact ⟨a, b, by rw [hW.alike.findClass]; exact h1, by rw [hW.alike.findClass]; exact h2, by rw [hW.alike.assignable]; exact h3⟩
theorem im_ZE.move {EW : List Cond} {NC : List (String × String)} {z : Nat} {s U : State} {H : Heap} (hmv : im_mvE EW) (h : im_ZE EW NC z s s.heap) (hW : s.WarmedH U.vm) (hk : ∀ q : Nat, q < s.heap.size → ¬ z ≤ q → H[q]? = s.heap[q]?) : im_ZE EW NC z U H := by
  refine ⟨fun w hw => ?_, vx_Zq.moved hW.alike (h.2.1.kept hk), vx_Zq.moved hW.alike (h.2.2.1.kept hk), fun q hq => im_Nc.move (h.2.2.2 q hq) hW⟩
  rcases hmv w hw with ⟨x, rfl⟩ | ⟨C, T, rfl⟩
  · exact va_Nw.warmD hW (h.1 _ hw)
  · exact va_Nw.warmC hW (h.1 _ hw)
/-- what the tables say of throws -/
def im_TE (G : im_G) (X : im_E) (EW : List Cond) : Prop := ∀ (ow k E ic : Nat), X.2.1 ow k = some (E, ic) → Bundle.fit (X.1 E) = true ∧ Cond.classLink (ig_nm G ow) k (X.1 E) ∈ ig_WS G ∧ Cond.initialized (X.1 E) ∈ ig_WS G ∧ (∀ w ∈ vx_at0 (ig_nm G ow) ic (X.1 E) im_names, vx_ot w = true ∧ (w ∈ ig_WS G ∨ w ∈ EW))
theorem im_noX_H {D : va_G} {cl : List vw_C} {ty : Nat → Nat → FieldType} {cy : Nat → ClassId} {ad : Nat → Nat} {z : Nat} {M : im_M} {H H1 : Heap} (h : im_H D cl ty cy ad z M H) (h1 : H.size ≤ H1.size) (h2 : ∀ q : Nat, q < H.size → H1[q]? = H[q]?) : im_H D cl ty cy ad z (im_noX M) H1 :=
  ⟨h.1.kept (fun k x hx => h2 x.1 ((h.1 k x hx).lt)), h.2.1, Nat.le_trans h.2.2.1 h1, fun q => (by cases q), h.2.2.2.2⟩
def im_XC (G : im_G) (D : va_G) (cy : Nat → ClassId) (ad : Nat → Nat) (z : Nat) (E : String) (M' : im_M) : String → State → State → Prop := fun E' st t => E' = E ∧ im_HH G D cy ad z M' t.heap ∧ va_F (fun q => z ≤ q) st t
/-- the frame of a run that ends with a throw -/
theorem im_thr_sound {G : im_G} {X : im_E} {EW : List Cond} {NC : List (String × String)} {l : Launch} {D : va_G} {cy : Nat → ClassId} {ad : Nat → Nat} {z : Nat} (HG : im_OK G) (HE : im_TE G X EW) (hmv : im_mvE EW) (htr : l.stackTraces = false) (had : ∀ i, i < 1000000 → ad i = z + i) : ∀ (n dep : Nat) (d : im_J) (F : im_F) (E : Nat) (M' : im_M), im_thr G X n dep d F = some (E, M') → (im_n F.2.2.2 ≤ im_n M' ∧ im_tt G F.2.2.2 ≤ im_tt G M') ∧
    ∀ (p : Program) (e : Env) (R : Room) (s : State) (m : MethodId) (args : Array Value) (below : List Frame) (meth : Method) (c : Code) (Qc : Array Value → State → Outcome → State → Prop) (cells slots mc ms : Nat), im_C p s m args meth c d.2.1 D (ig_cl G) cy d.2.2.1 (ig_WS G) (ig_nm G d.2.2.2.2.2.2) (decide (2 ≤ d.2.2.2.2.2.1)) → im_XX G ad z s s.heap → im_Y G s → im_ZE EW NC z s s.heap → z ≤ s.heap.size → dep ≤ R.frames → dep * 64 ≤ R.locals → cells + (im_n M' - im_n F.2.2.2) + 1 ≤ R.cells → slots + (im_tt G M' - im_tt G F.2.2.2) + 6 ≤ R.slots → meth.locks = false → (∀ x ∈ c.exceptionTable.toList, False) → cells + (im_n M' - im_n F.2.2.2) + 1 ≤ mc → slots + (im_tt G M' - im_tt G F.2.2.2) + 6 ≤ ms →
      im_Go p l e R s m args below meth c (vx_MQ below Qc (im_XC G D cy ad z (X.1 E) M') args s mc ms (fun q => z ≤ q)) D (ig_cl G) (ig_ty G) cy ad z s.heap d.2.2.1 cells slots F := by
  intro n
  induction n with
  | zero =>
    intro dep d F E M' h
    cases h
  | succ n ih =>
    intro dep d F E M' h
    cases dep with
    | zero => cases h
    | succ dep =>
      unfold im_thr at h
      cases hdec : decode d.2.1 F.1 with
      | error q => rw [hdec] at h; cases h
      | ok q =>
        obtain ⟨i, len⟩ := q
        rw [hdec] at h
        simp only at h
        cases ht : im_isthr X d i F with
        | some E' =>
          rw [ht] at h
          simp only at h
          split at h
          · rename_i hc
            cases h
            refine ⟨⟨Nat.le_refl _, Nat.le_refl _⟩, ?_⟩
            intro p e R s m args below meth c Qc cells slots mc ms C HX HY HZ hz hf hlo hce hsl hlk htab hmc hms
            obtain ⟨hx, hb, hts, hown, hK, hin, hml⟩ := C
            obtain ⟨rfl, h6⟩ := hc
            unfold im_isthr at ht
            cases i with
            | new k =>
              simp only at ht
              split at ht
              · rename_i E2 ic he
                split at ht
                · rename_i hd4
                  cases ht
                  obtain ⟨t1, t2, t3, t4⟩ := HE _ _ _ _ he
                  intro ls H locs hl hH hS
                  have e1 : im_n (im_noX F.2.2.2) - im_n F.2.2.2 = 0 := Nat.sub_self _
                  have e2 : im_tt G (im_noX F.2.2.2) - im_tt G F.2.2.2 = 0 := Nat.sub_self _
                  rw [e1] at hce hmc
                  rw [e2] at hsl hms
                  refine vx_throw0 (names := im_names) hx hb htr hown t1 (by decide) (hts _ t2) (hts _ t3) (fun w hw => ?_) ?_ HZ.2.1 HZ.2.2.1 hS (hl.1.trans hml.symm) hdec hd4.1 hd4.2.1 hd4.2.2.1 (fun x hx => (htab x hx).elim) (by show 2 + 3 < R.frames; omega) (by rw [im_cats]; show _ + (13 * (2 + 1) + 42) ≤ R.locals; omega) (by omega) (by omega) hlk (fun t _ h1 h2 => ⟨rfl, im_noX_H hH h1 h2, Nat.le_trans hS.1 h1, fun q q1 q2 => (h2 q (Nat.lt_of_lt_of_le q1 hS.1)).trans (hS.2.1 q q1 q2)⟩) hS.2.2 (by omega) (by omega)
                  · rcases (t4 w hw).2 with q | q
                    · exact hts _ q
                    · rcases hmv w q with ⟨x, rfl⟩ | ⟨C', T', rfl⟩
                      · exact va_Nw.use rfl (HZ.1 _ q)
                      · exact va_Nw.use rfl (HZ.1 _ q)
                  · intro w hw
                    rcases List.mem_cons.mp hw with rfl | hw
                    · rfl
                    · rcases List.mem_cons.mp hw with rfl | hw
                      · rfl
                      · exact (t4 w hw).1
                · cases ht
              · cases ht
            | _ => cases ht
          · cases h
        | none =>
          rw [ht] at h
          simp only at h
          by_cases hr : im_isret i = true
          · rw [if_pos hr] at h
            cases h
          · rw [if_neg hr] at h
            cases hcall : im_iscall G d i with
            | some kk =>
              obtain ⟨k, kd⟩ := kk
              rw [hcall] at h
              simp only at h
              by_cases hl : len = 3
              · subst hl
                rw [if_pos rfl] at h
                cases hp : im_prep G d.2.2.2.2.2.2 k kd F with
                | none => rw [hp] at h; cases h
                | some t =>
                  obtain ⟨d', vs, rest⟩ := t
                  rw [hp] at h
                  simp only at h
                  cases hrun : im_run G n dep d' (0, lv_args 0 vs, [], F.2.2.2) with
                  | none => rw [hrun] at h; cases h
                  | some r =>
                    obtain ⟨v1, M1⟩ := r
                    rw [hrun] at h
                    simp only at h
                    obtain ⟨⟨a1, a2⟩, a3⟩ := im_sound (l := l) (D := D) (cy := cy) HG had n dep d' _ v1 M1 hrun
                    obtain ⟨⟨b1, b2⟩, b3⟩ := ih (dep + 1) d _ E M' h
                    simp only at a1 a2 b1 b2
                    refine ⟨⟨Nat.le_trans a1 b1, Nat.le_trans a2 b2⟩, ?_⟩
                    intro p e R s m args below meth c Qc cells slots mc ms C HX HY HZ hz hf hlo hce hsl hlk htab hmc hms
                    refine im_call_ok HG C HX HY hz hf hlo hdec hcall hp a3 (by omega) (by omega) ?_
                    exact b3 p e R s m args below meth c Qc _ _ mc ms C HX HY HZ hz hf hlo (by simp only; omega) (by simp only; omega) hlk htab (by simp only; omega) (by simp only; omega)
              · rw [if_neg hl] at h
                cases h
            | none =>
              rw [hcall] at h
              simp only at h
              cases hn : im_nat G d i len F with
              | none => rw [hn] at h; cases h
              | some F' =>
                rw [hn] at h
                simp only at h
                obtain ⟨a1, a2⟩ := im_nat_mono hn
                obtain ⟨⟨b1, b2⟩, b3⟩ := ih (dep + 1) d F' E M' h
                refine ⟨⟨Nat.le_trans a1 b1, Nat.le_trans a2 b2⟩, ?_⟩
                intro p e R s m args below meth c Qc cells slots mc ms C HX HY HZ hz hf hlo hce hsl hlk htab hmc hms
                refine im_nat_ok (dep := dep) HG C HX had ⟨by omega, by omega⟩ hdec hn (by omega) (by omega) ?_
                exact b3 p e R s m args below meth c Qc _ _ mc ms C HX HY HZ hz hf hlo (by omega) (by omega) hlk htab (by omega) (by omega)

