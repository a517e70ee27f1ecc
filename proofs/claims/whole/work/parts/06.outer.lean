/-! OUTSIDE THE MEMORY: static fields and arrays, String constants; and System.arraycopy -/
def im_X (WS : List Cond) (nm : Nat → String) (ad : Nat → Nat) (z : Nat) (gT : Nat → Nat → Option Value) (xk : Nat → Nat × Nat) (xi : Nat → Nat → Int32) (sT : Nat → Nat → Option Nat) (U : State) (H : Heap) : Prop :=
  (∀ (ow idx : Nat) (v : Value), gT ow idx = some v → ∃ C n d : String, Cond.fieldLink (nm ow) idx C n d ∈ WS ∧ va_Z C n d (im_v ad v) (fun q => z ≤ q) U H) ∧
  (∀ a : Nat, (xk a).1 = 33 → va_T .int (ad a) (xk a).2 (fun j => .int (xi a j)) (fun q => z ≤ q) U H) ∧
  (∀ a : Nat, (xk a).1 = 32 → va_T .byte (ad a) (xk a).2 (fun j => .int (xi a j)) (fun q => z ≤ q) U H) ∧
  (∀ a : Nat, (xk a).1 = 50 → va_O "java/lang/String" (ad a) (fun q => z ≤ q) U H ∧ va_OF "java/lang/String" "coder" "B" (.int 0) (ad a) (fun q => z ≤ q) U H ∧ va_OF "java/lang/String" "value" "[B" (.ref (ad (a + 1000000))) (ad a) (fun q => z ≤ q) U H) ∧
  ∀ (ow k a : Nat), sT ow k = some a → ∃ tx : String, vk_R (nm ow) k tx (ad a) U
theorem im_X.move {WS : List Cond} {nm : Nat → String} {ad : Nat → Nat} {z : Nat} {gT : Nat → Nat → Option Value} {xk : Nat → Nat × Nat} {xi : Nat → Nat → Int32} {sT : Nat → Nat → Option Nat} {s U : State} {H : Heap} (h : im_X WS nm ad z gT xk xi sT s s.heap) (hW : s.WarmedH U.vm) (hk : ∀ q : Nat, q < s.heap.size → ¬ z ≤ q → H[q]? = s.heap[q]?) : im_X WS nm ad z gT xk xi sT U H := by
  obtain ⟨h1, h2, h3, h4, h5⟩ := h
  refine ⟨fun ow idx v hv => ?_, fun a ha => va_T.moved hW.alike ((h2 a ha).kept hk), fun a ha => va_T.moved hW.alike ((h3 a ha).kept hk), fun a ha => ?_, fun ow k a ha => ?_⟩
  · obtain ⟨C, n, d, hw, hz⟩ := h1 ow idx v hv
    exact ⟨C, n, d, hw, va_Z.moved hW.alike (hz.kept hk)⟩
  · obtain ⟨q1, q2, q3⟩ := h4 a ha
    exact ⟨va_O.moved hW.alike (q1.kept hk), va_OF.moved hW.alike (q2.kept hk), va_OF.moved hW.alike (q3.kept hk)⟩
  · obtain ⟨tx, ht⟩ := h5 ow k a ha
    exact ⟨tx, vk_R.warm hW ht⟩
def im_TV (WS : List Cond) (nm : Nat → String) (vT : Nat → Nat → Option Bool) : Prop := ∀ (ow k : Nat), (vT ow k = some true → Cond.fieldLink (nm ow) k "java/lang/String" "value" "[B" ∈ WS) ∧ (vT ow k = some false → Cond.fieldLink (nm ow) k "java/lang/String" "coder" "B" ∈ WS)
def im_xald (xk : Nat → Nat × Nat) (xi : Nat → Nat → Int32) (kd : Nat) (F : im_F) : Option im_F := match F with
  | (pc, L, .int i :: .ref a :: r, M) => if (xk a).1 = kd ∧ 0 ≤ i.toInt ∧ i.toInt < (xk a).2 then some (pc + 1, L, .int (xi a i.toNatClampNeg) :: r, M) else none
  | _ => none
def im_xlen (xk : Nat → Nat × Nat) (F : im_F) : Option im_F := match F with
  | (pc, L, .ref a :: r, M) => if (xk a).1 = 33 ∨ (xk a).1 = 32 then some (pc + 1, L, .int (Int32.ofNat (xk a).2) :: r, M) else none
  | _ => none
def im_xgetf (xk : Nat → Nat × Nat) (b : Bool) (F : im_F) : Option im_F := match F with
  | (pc, L, .ref a :: r, M) => if (xk a).1 = 50 then some (pc + 3, L, (if b = true then .ref (a + 1000000) else .int 0) :: r, M) else none
  | _ => none
def im_stepX (gT : Nat → Nat → Option Value) (xk : Nat → Nat × Nat) (xi : Nat → Nat → Int32) (sT : Nat → Nat → Option Nat) (vT : Nat → Nat → Option Bool) (ow : Nat) (i : Instr) (len : Nat) (F : im_F) : Option im_F := match i with
  | .getstatic k => im_ok 3 len (match gT ow k with
    | some v => some (im_push F 3 v)
    | none => none)
  | .ldc k => im_ok 2 len (match sT ow k with
    | some a => some (im_push F 2 (.ref a))
    | none => none)
  | .iaload => im_ok 1 len (im_xald xk xi 33 F)
  | .baload => im_ok 1 len (im_xald xk xi 32 F)
  | .arraylength => im_ok 1 len (im_xlen xk F)
  | .getfield k => im_ok 3 len (match vT ow k with
    | some b => im_xgetf xk b F
    | none => none)
  | _ => none
/-- the ints of an array copied into another -/
def im_setA (M : im_M) (a : Nat) (f : Nat → Int32) : im_M := (im_n M, false, im_k M, (fun b => if b = a then f else im_i M b), im_l M, im_r M)
def im_acopy (F : im_F) : Option im_F := match F with
  | (pc, L, .int n :: .int dp :: .ref a :: .int sp :: .ref b :: r, M) => if a < im_n M ∧ b < im_n M ∧ (im_k M a).1 = (im_k M b).1 ∧ ((im_k M a).1 = 32 ∨ (im_k M a).1 = 33) ∧ ¬ sp < 0 ∧ ¬ dp < 0 ∧ ¬ n < 0 ∧ sp.toNatClampNeg + n.toNatClampNeg ≤ (im_k M b).2 ∧ dp.toNatClampNeg + n.toNatClampNeg ≤ (im_k M a).2 ∧ (r.map fun v => v.category).sum ≤ 8
    then some (pc + 3, L, r, im_setA M a (va_cpy (im_i M b) (im_i M a) sp.toNatClampNeg dp.toNatClampNeg n.toNatClampNeg)) else none
  | _ => none
def im_TA (WS : List Cond) (nm : Nat → String) (aT : Nat → Nat → Bool) : Prop := ∀ (ow k : Nat), aT ow k = true → Cond.methodLink (nm ow) k arraycopyName ∈ WS ∧ Cond.native arraycopyName ∈ WS ∧ Cond.static arraycopyName ∈ WS ∧ Cond.initialized "java/lang/System" ∈ WS
section IMX
variable {p : Program} {l : Launch} {e : Env} {R : Room} {s : State} {m : MethodId} {args : Array Value} {below : List Frame} {meth : Method} {c : Code} {Q : State → Prop} {cc : ByteArray} {cells slots : Nat}
variable {D : va_G} {cl : List vw_C} {ty : Nat → Nat → FieldType} {cy : Nat → ClassId} {ad : Nat → Nat} {z : Nat} {nL : Nat} {WS : List Cond} {nm : Nat → String} {ow : Nat} {ini : Bool}
variable {gT : Nat → Nat → Option Value} {xk : Nat → Nat × Nat} {xi : Nat → Nat → Int32} {sT : Nat → Nat → Option Nat} {vT : Nat → Nat → Option Bool} {aT : Nat → Nat → Bool}

theorem im_s_getstatic (C : im_C p s m args meth c cc D cl cy nL WS (nm ow) ini) (HX : im_X WS nm ad z gT xk xi sT s s.heap) {k : Nat} {F F' : im_F} (hd : decode cc F.1 = .ok (.getstatic k, 3)) (h : (match gT ow k with | some v => some (im_push F 3 v) | none => none) = some F') (g : im_Go p l e R s m args below meth c Q D cl ty cy ad z s.heap nL cells slots F') : im_Go p l e R s m args below meth c Q D cl ty cy ad z s.heap nL cells slots F := by
  obtain ⟨hx, hb, hts, hown, hK, hin, hml⟩ := C
  intro ls H locs hl hH hS
  split at h
  · rename_i v hv
    cases h
    obtain ⟨C, n, d, hw, hz⟩ := HX.1 ow k v hv
    exact va_gets hx hb hz hS hown (hts _ hw) (fun _ h9 => h9) hd (g ls H locs hl hH hS)
  · cases h
theorem im_s_ldcS (C : im_C p s m args meth c cc D cl cy nL WS (nm ow) ini) (HX : im_X WS nm ad z gT xk xi sT s s.heap) {k : Nat} {F F' : im_F} (hd : decode cc F.1 = .ok (.ldc k, 2)) (h : (match sT ow k with | some a => some (im_push F 2 (.ref a)) | none => none) = some F') (g : im_Go p l e R s m args below meth c Q D cl ty cy ad z s.heap nL cells slots F') : im_Go p l e R s m args below meth c Q D cl ty cy ad z s.heap nL cells slots F := by
  obtain ⟨hx, hb, hts, hown, hK, hin, hml⟩ := C
  intro ls H locs hl hH hS
  split at h
  · rename_i a ha
    cases h
    obtain ⟨tx, ht⟩ := HX.2.2.2.2 ow k a ha
    exact va_ldcS hx hb hown ht hd (g ls H locs hl hH hS)
  · cases h
theorem im_sx_iaload (C : im_C p s m args meth c cc D cl cy nL WS (nm ow) ini) (HX : im_X WS nm ad z gT xk xi sT s s.heap)  {F F' : im_F} (hd : decode cc F.1 = .ok (.iaload, 1)) (h : im_xald xk xi 33 F = some F') (g : im_Go p l e R s m args below meth c Q D cl ty cy ad z s.heap nL cells slots F') : im_Go p l e R s m args below meth c Q D cl ty cy ad z s.heap nL cells slots F := by
  obtain ⟨hx, hb, hts, hown, hK, hin, hml⟩ := C
  intro ls H locs hl hH hS
  obtain ⟨pc, L, st, M⟩ := F
  cases st with
  | nil => cases h
  | cons w0 r0 =>
    cases w0 with
    | int i =>
      cases r0 with
      | nil => first | cases h | simp at h | (split at h <;> cases h)
      | cons w1 r1 =>
        cases w1 with
        | ref a =>
          simp only [im_xald] at h
          split at h
          · rename_i hc
            cases h
            exact va_ti hx hb (HX.2.1 a hc.1) hS (im_vpin hc.2.1 hc.2.2) rfl hd (g ls H locs hl hH hS)
          · cases h
        | _ => first | cases h | (simp at h; done)
    | _ => first | cases h | (simp at h; done)
theorem im_sx_baload (C : im_C p s m args meth c cc D cl cy nL WS (nm ow) ini) (HX : im_X WS nm ad z gT xk xi sT s s.heap)  {F F' : im_F} (hd : decode cc F.1 = .ok (.baload, 1)) (h : im_xald xk xi 32 F = some F') (g : im_Go p l e R s m args below meth c Q D cl ty cy ad z s.heap nL cells slots F') : im_Go p l e R s m args below meth c Q D cl ty cy ad z s.heap nL cells slots F := by
  obtain ⟨hx, hb, hts, hown, hK, hin, hml⟩ := C
  intro ls H locs hl hH hS
  obtain ⟨pc, L, st, M⟩ := F
  cases st with
  | nil => cases h
  | cons w0 r0 =>
    cases w0 with
    | int i =>
      cases r0 with
      | nil => first | cases h | simp at h | (split at h <;> cases h)
      | cons w1 r1 =>
        cases w1 with
        | ref a =>
          simp only [im_xald] at h
          split at h
          · rename_i hc
            cases h
            exact va_tb hx hb (HX.2.2.1 a hc.1) hS (im_vpin hc.2.1 hc.2.2) rfl hd (g ls H locs hl hH hS)
          · cases h
        | _ => first | cases h | (simp at h; done)
    | _ => first | cases h | (simp at h; done)
theorem im_sx_arraylength (C : im_C p s m args meth c cc D cl cy nL WS (nm ow) ini) (HX : im_X WS nm ad z gT xk xi sT s s.heap)  {F F' : im_F} (hd : decode cc F.1 = .ok (.arraylength, 1)) (h : im_xlen xk F = some F') (g : im_Go p l e R s m args below meth c Q D cl ty cy ad z s.heap nL cells slots F') : im_Go p l e R s m args below meth c Q D cl ty cy ad z s.heap nL cells slots F := by
  obtain ⟨hx, hb, hts, hown, hK, hin, hml⟩ := C
  intro ls H locs hl hH hS
  obtain ⟨pc, L, st, M⟩ := F
  cases st with
  | nil => cases h
  | cons w0 r0 =>
    cases w0 with
    | ref a =>
      simp only [im_xlen] at h
      split at h
      · rename_i hc
        cases h
        rcases hc with hc | hc
        · exact va_tlen hx hb (HX.2.1 a hc) hS rfl hd (g ls H locs hl hH hS)
        · exact va_tlen hx hb (HX.2.2.1 a hc) hS rfl hd (g ls H locs hl hH hS)
      · cases h
    | _ => first | cases h | (simp at h; done)
theorem im_sx_getfield (C : im_C p s m args meth c cc D cl cy nL WS (nm ow) ini) (HX : im_X WS nm ad z gT xk xi sT s s.heap) (HV : im_TV WS nm vT) {k : Nat} {F F' : im_F} (hd : decode cc F.1 = .ok (.getfield k, 3)) (h : (match vT ow k with | some b => im_xgetf xk b F | none => none) = some F') (g : im_Go p l e R s m args below meth c Q D cl ty cy ad z s.heap nL cells slots F') : im_Go p l e R s m args below meth c Q D cl ty cy ad z s.heap nL cells slots F := by
  cases hv : vT ow k with
  | none => rw [hv] at h; cases h
  | some b =>
    rw [hv] at h
    simp only at h
    obtain ⟨hx, hb, hts, hown, hK, hin, hml⟩ := C
    intro ls H locs hl hH hS
    obtain ⟨pc, L, st, M⟩ := F
    cases st with
    | nil => cases h
    | cons w0 r0 =>
      cases w0 with
      | ref a =>
        simp only [im_xgetf] at h
        split at h
        · rename_i hc
          cases h
          obtain ⟨-, q2, q3⟩ := HX.2.2.2.1 a hc
          cases b with
          | true => exact vk_getf hx hb q3 hS hown (hts _ ((HV ow k).1 hv)) (fun _ h9 => h9) hd (g ls H locs hl hH hS)
          | false => exact vk_getf hx hb q2 hS hown (hts _ ((HV ow k).2 hv)) (fun _ h9 => h9) hd (g ls H locs hl hH hS)
        · cases h
      | _ => first | cases h | (simp at h; done)
    
theorem im_stepX_ok (C : im_C p s m args meth c cc D cl cy nL WS (nm ow) ini) (HX : im_X WS nm ad z gT xk xi sT s s.heap) (HV : im_TV WS nm vT) {i : Instr} {len : Nat} {F F' : im_F} (hd : decode cc F.1 = .ok (i, len)) (h : im_stepX gT xk xi sT vT ow i len F = some F') (g : im_Go p l e R s m args below meth c Q D cl ty cy ad z s.heap nL cells slots F') : im_Go p l e R s m args below meth c Q D cl ty cy ad z s.heap nL cells slots F := by
  cases i with
  | getstatic k => obtain ⟨rfl, h⟩ := im_ok_some h; exact im_s_getstatic C HX hd h g
  | ldc k => obtain ⟨rfl, h⟩ := im_ok_some h; exact im_s_ldcS C HX hd h g
  | iaload => obtain ⟨rfl, h⟩ := im_ok_some h; exact im_sx_iaload C HX hd h g
  | baload => obtain ⟨rfl, h⟩ := im_ok_some h; exact im_sx_baload C HX hd h g
  | arraylength => obtain ⟨rfl, h⟩ := im_ok_some h; exact im_sx_arraylength C HX hd h g
  | getfield k => obtain ⟨rfl, h⟩ := im_ok_some h; exact im_sx_getfield C HX HV hd h g
  | _ => cases h
theorem im_ent_neA {cl : List vw_C} {ty : Nat → Nat → FieldType} {cy : Nat → ClassId} {ad : Nat → Nat} {M : im_M} {a i : Nat} {f : Nat → Int32} (h : i ≠ a) : im_ent cl ty cy ad (im_setA M a f) i = im_ent cl ty cy ad M i := by
  have e : im_i (im_setA M a f) i = im_i M i := by simp [im_setA, im_i, h]
  have e2 : ∀ c, im_fs cl ty ad (im_setA M a f) i c = im_fs cl ty ad M i c := by
    intro c
    simp only [im_fs]
    congr 1
    funext j
    unfold im_fv
    rw [e]
    rfl
  simp only [im_ent, e, e2]
  rfl
theorem im_fit_i (x : Int32) : fits .int (.int x) = true := rfl
theorem im_s_acopy (C : im_C p s m args meth c cc D cl cy nL WS (nm ow) ini) (HA : im_TA WS nm aT) (hR : 1 ≤ R.frames ∧ 64 ≤ R.locals) {k : Nat} {F F' : im_F} (ha : aT ow k = true) (hd : decode cc F.1 = .ok (.invokestatic k, 3)) (h : im_acopy F = some F') (g : im_Go p l e R s m args below meth c Q D cl ty cy ad z s.heap nL cells slots F') : im_Go p l e R s m args below meth c Q D cl ty cy ad z s.heap nL cells slots F := by
  obtain ⟨hx, hb, hts, hown, hK, hin, hml⟩ := C
  intro ls H locs hl hH hS
  obtain ⟨pc, L, st, M⟩ := F
  cases st with
  | nil => cases h
  | cons w0 r0 =>
    cases w0 with
    | int n =>
      cases r0 with
      | nil => first | cases h | simp at h | (split at h <;> cases h)
      | cons w1 r1 =>
        cases w1 with
        | int dp =>
          cases r1 with
          | nil => first | cases h | simp at h | (split at h <;> cases h)
          | cons w2 r2 =>
            cases w2 with
            | ref a =>
              cases r2 with
              | nil => first | cases h | simp at h | (split at h <;> cases h)
              | cons w3 r3 =>
                cases w3 with
                | int sp =>
                  cases r3 with
                  | nil => first | cases h | simp at h | (split at h <;> cases h)
                  | cons w4 r4 =>
                    cases w4 with
                    | ref b =>
                      simp only [im_acopy] at h
                      split at h
                      · rename_i hc
                        cases h
                        obtain ⟨c1, c2, c3, c4, c5, c6, c7, c8, c9, c10⟩ := hc
                        obtain ⟨w1, w2, w3, w4⟩ := HA ow k ha
                        obtain ⟨t0, ft, hft, ht0, hfit⟩ : ∃ (t0 : Nat) (ft : FieldType), refKind ft = false ∧ (im_tys cy)[t0]? = some (cy (im_k M a).1, ft) ∧ ∀ j, fits ft (.int (im_i M b j)) = true := by
                          rcases c4 with c4 | c4
                          · exact ⟨0, .byte, rfl, by rw [c4]; rfl, fun j => hH.2.2.2.2 b (c3.symm.trans c4) j⟩
                          · exact ⟨1, .int, rfl, by rw [c4]; rfl, fun j => rfl⟩
                        have h32 : ¬ (im_k M a).1 < 32 := by omega
                        have h34 : (im_k M a).1 ≠ 34 := by omega
                        have hea : (im_ws cl ty cy ad M)[a]? = some (ad a, .inl (cy (im_k M a).1, (im_k M a).2, .inl (im_i M a))) := by rw [im_ws_at c1, im_ent_a rfl h32 h34]
                        have heb : (im_ws cl ty cy ad M)[b]? = some (ad b, .inl (cy (im_k M a).1, (im_k M b).2, .inl (im_i M b))) := by rw [im_ws_at c2, im_ent_a c3.symm h32 h34]
                        have hSH : va_S (fun q => z ≤ q) H H locs := ⟨Nat.le_refl _, fun _ _ _ => rfl, hS.2.2⟩
                        refine va_copyi hx hb (hml.trans hl.1.symm) hown (hts _ w1) (hts _ w2) (hts _ w3) (hts _ w4) hK hH.1 (im_D hH.2.1) hSH b a t0 t0 heb hea ht0 ht0 hft c5 c6 c7 c8 c9 (fun i _ => hfit _) hR.1 ?_ hd (fun H1 locs1 hP1 hD1 hS1 => ?_)
                        · have e1 : ((r4.map (im_v ad)).map fun v => v.category).sum = (r4.map fun v => v.category).sum := by
                            rw [List.map_map]
                            congr 2
                            funext v
                            exact im_v_cat ad v
                          have e2 : nativeFrameWords "java/lang/System" "arraycopy" 5 + 11 ≤ 56 := by decide
                          have e3 := hR.2
                          omega
                        · have e4 : im_ent cl ty cy ad (im_setA M a (va_cpy (im_i M b) (im_i M a) sp.toNatClampNeg dp.toNatClampNeg n.toNatClampNeg)) a = .inl (cy (im_k M a).1, (im_k M a).2, .inl (va_cpy (im_i M b) (im_i M a) sp.toNatClampNeg dp.toNatClampNeg n.toNatClampNeg)) := by
                            refine (im_ent_a (M := im_setA M a (va_cpy (im_i M b) (im_i M a) sp.toNatClampNeg dp.toNatClampNeg n.toNatClampNeg)) (c := (im_k M a).1) rfl h32 h34).trans ?_
                            simp [im_setA, im_i, im_k]
                          rw [← e4, im_ws_set (M := M) (M' := im_setA M a (va_cpy (im_i M b) (im_i M a) sp.toNatClampNeg dp.toNatClampNeg n.toNatClampNeg)) rfl (fun i hi => im_ent_neA hi)] at hP1
                          refine g ls H1 locs1 hl ⟨hP1, hH.2.1, Nat.le_trans hH.2.2.1 hS1.1, (fun q => by cases q), ?_⟩ ⟨Nat.le_trans hS.1 hS1.1, fun q q1 q2 => (hS1.2.1 q (Nat.lt_of_lt_of_le q1 hS.1) q2).trans (hS.2.1 q q1 q2), hS1.2.2⟩
                          intro d hd' j
                          show fits .byte (.int ((if d = a then va_cpy (im_i M b) (im_i M a) sp.toNatClampNeg dp.toNatClampNeg n.toNatClampNeg else im_i M d) j)) = true
                          by_cases hda : d = a
                          · rw [if_pos hda]
                            have hka : (im_k M a).1 = 32 := by rw [← hda]; exact hd'
                            unfold va_cpy
                            split
                            · exact hH.2.2.2.2 b (c3.symm.trans hka) _
                            · exact hH.2.2.2.2 a hka _
                          · rw [if_neg hda]
                            exact hH.2.2.2.2 d hd' j
                      · cases h
                    | _ => first | cases h | (simp at h; done)
                | _ => first | cases h | (simp at h; done)
            | _ => first | cases h | (simp at h; done)
        | _ => first | cases h | (simp at h; done)
    | _ => first | cases h | (simp at h; done)
end IMX
