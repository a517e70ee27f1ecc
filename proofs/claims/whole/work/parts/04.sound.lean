/-! SOUNDNESS OF THE SIMPLE STEPS -/
/-- arrays of bytes hold bytes -/
def im_B (M : im_M) : Prop := ∀ a, (im_k M a).1 = 32 → ∀ j, fits .byte (.int (im_i M a j)) = true
/-- the heap H holds the memory M: its cells lie from z on -/
def im_H (D : va_G) (cl : List vw_C) (ty : Nat → Nat → FieldType) (cy : Nat → ClassId) (ad : Nat → Nat) (z : Nat) (M : im_M) (H : Heap) : Prop :=
  va_P D cl (im_ws cl ty cy ad M) H ∧ (∀ i, i < im_n M → ad i = z + i) ∧ z + im_n M ≤ H.size ∧ (im_x M = true → H.size = z + im_n M) ∧ im_B M
theorem im_D {cl : List vw_C} {ty : Nat → Nat → FieldType} {cy : Nat → ClassId} {ad : Nat → Nat} {z : Nat} {M : im_M} (h : ∀ i, i < im_n M → ad i = z + i) : va_D (fun q => z ≤ q) (im_ws cl ty cy ad M) := by
  constructor
  · intro i j p q hp hq he
    by_cases hi : i < im_n M
    · by_cases hj : j < im_n M
      · rw [im_ws_at hi] at hp
        rw [im_ws_at hj] at hq
        cases hp
        cases hq
        have e1 := h i hi
        have e2 := h j hj
        have he' : ad i = ad j := he
        omega
      · have : (im_ws cl ty cy ad M)[j]? = none := by simp [im_ws, hj]
        rw [this] at hq
        cases hq
    · have : (im_ws cl ty cy ad M)[i]? = none := by simp [im_ws, hi]
      rw [this] at hp
      cases hp
  · intro k q hq
    by_cases hk : k < im_n M
    · rw [im_ws_at hk] at hq
      cases hq
      have e1 := h k hk
      show z ≤ ad k
      omega
    · have : (im_ws cl ty cy ad M)[k]? = none := by simp [im_ws, hk]
      rw [this] at hq
      cases hq
/-- what the tables must say: of the classes, of the field links, of the constants -/
def im_TC (cl : List vw_C) (ty : Nat → Nat → FieldType) (WS : List Cond) : Prop := ∀ (ci : Nat) (q : vw_C), cl[ci]? = some q → (∀ w ∈ u_ws q.1 q.2.1 q.2.2, w ∈ WS) ∧ (∀ k, k < q.2.2 → parseFieldDescriptor (q.2.1 k).2.2.1 = some (ty ci k)) ∧ ∀ a, a < q.2.2 → ∀ b, b < q.2.2 → a ≠ b → (q.2.1 a).2.1 ≠ (q.2.1 b).2.1
def im_TF (cl : List vw_C) (WS : List Cond) (nm : Nat → String) (fT : Nat → Nat → Option (Nat × Nat)) : Prop := ∀ (ow idx ci k : Nat), fT ow idx = some (ci, k) → ci < 32 ∧ ∃ q : vw_C, cl[ci]? = some q ∧ k < q.2.2 ∧ Cond.fieldLink (nm ow) idx (q.2.1 k).1 (q.2.1 k).2.1 (q.2.1 k).2.2.1 ∈ WS
def im_TK (WS : List Cond) (nm : Nat → String) (cT : Nat → Nat → Option Value) : Prop := (∀ (ow idx : Nat) (v : Int32), cT ow idx = some (.int v) → Cond.constant (nm ow) idx v ∈ WS) ∧ ∀ (ow idx : Nat) (v : Int64), cT ow idx = some (.long v) → Cond.constantLong (nm ow) idx v ∈ WS
section IMS
variable {p : Program} {l : Launch} {e : Env} {R : Room} {s : State} {m : MethodId} {args : Array Value} {below : List Frame} {meth : Method} {c : Code} {Q : State → Prop} {cc : ByteArray} {cells slots : Nat}
variable {D : va_G} {cl : List vw_C} {ty : Nat → Nat → FieldType} {cy : Nat → ClassId} {ad : Nat → Nat} {z : Nat} {H0 : Heap} {nL : Nat} {WS : List Cond} {nm : Nat → String} {ow : Nat} {ini : Bool}
variable {fT : Nat → Nat → Option (Nat × Nat)} {cT : Nat → Nat → Option Value}
/-- from the pure frame F the machine comes to Q, whatever heap holds it -/
def im_Go (p : Program) (l : Launch) (e : Env) (R : Room) (s : State) (m : MethodId) (args : Array Value) (below : List Frame) (meth : Method) (c : Code) (Q : State → Prop) (D : va_G) (cl : List vw_C) (ty : Nat → Nat → FieldType) (cy : Nat → ClassId) (ad : Nat → Nat) (z : Nat) (H0 : Heap) (nL cells slots : Nat) (F : im_F) : Prop :=
  ∀ (ls : Array Slot) (H : Heap) (locs : List Loc), lv_has ls nL (im_L ad F.2.1) → im_H D cl ty cy ad z F.2.2.2 H → va_S (fun q => z ≤ q) H0 H locs → W p l e R s m args below meth c H locs cells slots Q (F0 m F.1 ls (F.2.2.1.map (im_v ad)))
/-- what stays the same while a method runs -/
def im_C (p : Program) (s : State) (m : MethodId) (args : Array Value) (meth : Method) (c : Code) (cc : ByteArray) (D : va_G) (cl : List vw_C) (cy : Nat → ClassId) (nL : Nat) (WS : List Cond) (own : String) (ini : Bool) : Prop :=
  p.tables.exec = Jvm.exec ∧ c.code = cc ∧ (∀ w ∈ WS, w.before args s = true) ∧ s.vm.findClass own = some m.cls ∧ va_K D cl (im_tys cy) s ∧ (ini = true → meth.name = "<init>") ∧ c.maxLocals = nL
theorem im_ok_some {d len : Nat} {x : Option im_F} {F : im_F} (h : im_ok d len x = some F) : len = d ∧ x = some F := by
  unfold im_ok at h
  by_cases hl : len = d
  · rw [if_pos hl] at h
    exact ⟨hl, h⟩
  · rw [if_neg hl] at h
    cases h
theorem im_jmp_some {pc : Nat} {off : Int} {F : List (Nat × Value) × List Value × im_M} {F' : im_F} (h : im_jmp pc off F = some F') : (pc : Int) + off = (im_tgt pc off : Int) ∧ F' = (im_tgt pc off, F) := by
  unfold im_jmp at h
  by_cases hl : 0 ≤ (pc : Int) + off
  · rw [if_pos hl] at h
    cases h
    exact ⟨im_tgt_ok hl, rfl⟩
  · rw [if_neg hl] at h
    cases h

theorem im_s_iconst (C : im_C p s m args meth c cc D cl cy nL WS (nm ow) ini) {n : Int} {F F' : im_F} (hd : decode cc F.1 = .ok (.iconst n, 1)) (h : some (im_push F 1 (.int (Int32.ofInt n))) = some F') (g : im_Go p l e R s m args below meth c Q D cl ty cy ad z H0 nL cells slots F') : im_Go p l e R s m args below meth c Q D cl ty cy ad z H0 nL cells slots F := by
  obtain ⟨hx, hb, hts, hown, hK, hin, hml⟩ := C
  intro ls H locs hl hH hS
  cases h
  exact lv_iconst hx hb hd rfl (g ls H locs hl hH hS)
theorem im_s_bipush (C : im_C p s m args meth c cc D cl cy nL WS (nm ow) ini) {n : Int} {F F' : im_F} (hd : decode cc F.1 = .ok (.bipush n, 2)) (h : some (im_push F 2 (.int (Int8.ofInt n).toInt32)) = some F') (g : im_Go p l e R s m args below meth c Q D cl ty cy ad z H0 nL cells slots F') : im_Go p l e R s m args below meth c Q D cl ty cy ad z H0 nL cells slots F := by
  obtain ⟨hx, hb, hts, hown, hK, hin, hml⟩ := C
  intro ls H locs hl hH hS
  cases h
  exact lv_bipush hx hb hd rfl (g ls H locs hl hH hS)
theorem im_s_sipush (C : im_C p s m args meth c cc D cl cy nL WS (nm ow) ini) {n : Int} {F F' : im_F} (hd : decode cc F.1 = .ok (.sipush n, 3)) (h : some (im_push F 3 (.int (Int16.ofInt n).toInt32)) = some F') (g : im_Go p l e R s m args below meth c Q D cl ty cy ad z H0 nL cells slots F') : im_Go p l e R s m args below meth c Q D cl ty cy ad z H0 nL cells slots F := by
  obtain ⟨hx, hb, hts, hown, hK, hin, hml⟩ := C
  intro ls H locs hl hH hS
  cases h
  exact lv_sipush hx hb hd rfl (g ls H locs hl hH hS)
theorem im_s_lconst (C : im_C p s m args meth c cc D cl cy nL WS (nm ow) ini) {n : Fin 2} {F F' : im_F} (hd : decode cc F.1 = .ok (.lconst n, 1)) (h : some (im_push F 1 (.long (Int64.ofNat (n : Nat)))) = some F') (g : im_Go p l e R s m args below meth c Q D cl ty cy ad z H0 nL cells slots F') : im_Go p l e R s m args below meth c Q D cl ty cy ad z H0 nL cells slots F := by
  obtain ⟨hx, hb, hts, hown, hK, hin, hml⟩ := C
  intro ls H locs hl hH hS
  cases h
  exact lv_lconst hx hb hd rfl (g ls H locs hl hH hS)
theorem im_s_iload_n (C : im_C p s m args meth c cc D cl cy nL WS (nm ow) ini) {k : Fin 4} {F F' : im_F} (hd : decode cc F.1 = .ok (.iload_n k, 1)) (h : im_load (k : Nat) 1 0 F = some F') (g : im_Go p l e R s m args below meth c Q D cl ty cy ad z H0 nL cells slots F') : im_Go p l e R s m args below meth c Q D cl ty cy ad z H0 nL cells slots F := by
  obtain ⟨hx, hb, hts, hown, hK, hin, hml⟩ := C
  intro ls H locs hl hH hS
  unfold im_load at h
  cases hv : im_lk F.2.1 (k : Nat) with
  | none => rw [hv] at h; cases h
  | some v =>
    rw [hv] at h
    cases v with
    | int x =>
      simp only [if_true] at h
      cases h
      exact lv_iload_n hx hb hd rfl (im_lk_ls hl hv) (g ls H locs hl hH hS)
    | _ => simp at h
theorem im_s_iload (C : im_C p s m args meth c cc D cl cy nL WS (nm ow) ini) {k : Nat} {F F' : im_F} (hd : decode cc F.1 = .ok (.iload k, 2)) (h : im_load k 2 0 F = some F') (g : im_Go p l e R s m args below meth c Q D cl ty cy ad z H0 nL cells slots F') : im_Go p l e R s m args below meth c Q D cl ty cy ad z H0 nL cells slots F := by
  obtain ⟨hx, hb, hts, hown, hK, hin, hml⟩ := C
  intro ls H locs hl hH hS
  unfold im_load at h
  cases hv : im_lk F.2.1 k with
  | none => rw [hv] at h; cases h
  | some v =>
    rw [hv] at h
    cases v with
    | int x =>
      simp only [if_true] at h
      cases h
      exact lv_iload hx hb hd (im_lk_ls hl hv) (g ls H locs hl hH hS)
    | _ => simp at h
theorem im_s_lload_n (C : im_C p s m args meth c cc D cl cy nL WS (nm ow) ini) {k : Fin 4} {F F' : im_F} (hd : decode cc F.1 = .ok (.lload_n k, 1)) (h : im_load (k : Nat) 1 1 F = some F') (g : im_Go p l e R s m args below meth c Q D cl ty cy ad z H0 nL cells slots F') : im_Go p l e R s m args below meth c Q D cl ty cy ad z H0 nL cells slots F := by
  obtain ⟨hx, hb, hts, hown, hK, hin, hml⟩ := C
  intro ls H locs hl hH hS
  unfold im_load at h
  cases hv : im_lk F.2.1 (k : Nat) with
  | none => rw [hv] at h; cases h
  | some v =>
    rw [hv] at h
    cases v with
    | long x =>
      simp only [if_true] at h
      cases h
      exact lv_lload_n hx hb hd rfl (im_lk_ls hl hv) (g ls H locs hl hH hS)
    | _ => simp at h
theorem im_s_lload (C : im_C p s m args meth c cc D cl cy nL WS (nm ow) ini) {k : Nat} {F F' : im_F} (hd : decode cc F.1 = .ok (.lload k, 2)) (h : im_load k 2 1 F = some F') (g : im_Go p l e R s m args below meth c Q D cl ty cy ad z H0 nL cells slots F') : im_Go p l e R s m args below meth c Q D cl ty cy ad z H0 nL cells slots F := by
  obtain ⟨hx, hb, hts, hown, hK, hin, hml⟩ := C
  intro ls H locs hl hH hS
  unfold im_load at h
  cases hv : im_lk F.2.1 k with
  | none => rw [hv] at h; cases h
  | some v =>
    rw [hv] at h
    cases v with
    | long x =>
      simp only [if_true] at h
      cases h
      exact lv_lload hx hb hd (im_lk_ls hl hv) (g ls H locs hl hH hS)
    | _ => simp at h
theorem im_s_aload_n (C : im_C p s m args meth c cc D cl cy nL WS (nm ow) ini) {k : Fin 4} {F F' : im_F} (hd : decode cc F.1 = .ok (.aload_n k, 1)) (h : im_load (k : Nat) 1 2 F = some F') (g : im_Go p l e R s m args below meth c Q D cl ty cy ad z H0 nL cells slots F') : im_Go p l e R s m args below meth c Q D cl ty cy ad z H0 nL cells slots F := by
  obtain ⟨hx, hb, hts, hown, hK, hin, hml⟩ := C
  intro ls H locs hl hH hS
  unfold im_load at h
  cases hv : im_lk F.2.1 (k : Nat) with
  | none => rw [hv] at h; cases h
  | some v =>
    rw [hv] at h
    cases v with
    | ref x =>
      simp only [if_true] at h
      cases h
      exact lv_aload_n hx hb hd rfl (im_lk_ls hl hv) (g ls H locs hl hH hS)
    | _ => simp at h
theorem im_s_aload (C : im_C p s m args meth c cc D cl cy nL WS (nm ow) ini) {k : Nat} {F F' : im_F} (hd : decode cc F.1 = .ok (.aload k, 2)) (h : im_load k 2 2 F = some F') (g : im_Go p l e R s m args below meth c Q D cl ty cy ad z H0 nL cells slots F') : im_Go p l e R s m args below meth c Q D cl ty cy ad z H0 nL cells slots F := by
  obtain ⟨hx, hb, hts, hown, hK, hin, hml⟩ := C
  intro ls H locs hl hH hS
  unfold im_load at h
  cases hv : im_lk F.2.1 k with
  | none => rw [hv] at h; cases h
  | some v =>
    rw [hv] at h
    cases v with
    | ref x =>
      simp only [if_true] at h
      cases h
      exact lv_aload hx hb hd (im_lk_ls hl hv) (g ls H locs hl hH hS)
    | _ => simp at h
theorem im_s_istore_n (C : im_C p s m args meth c cc D cl cy nL WS (nm ow) ini) {k : Fin 4} {F F' : im_F} (hd : decode cc F.1 = .ok (.istore_n k, 1)) (h : im_store nL (k : Nat) 1 0 F = some F') (g : im_Go p l e R s m args below meth c Q D cl ty cy ad z H0 nL cells slots F') : im_Go p l e R s m args below meth c Q D cl ty cy ad z H0 nL cells slots F := by
  obtain ⟨hx, hb, hts, hown, hK, hin, hml⟩ := C
  intro ls H locs hl hH hS
  obtain ⟨pc, L, st, M⟩ := F
  cases st with
  | nil => cases h
  | cons v r =>
    cases v with
    | int x =>
      simp only [im_store, true_and] at h
      split at h
      · rename_i hn
        cases h
        exact lv_istore_n hx hb hd rfl hl hn (im_L_st1 rfl) (fun ls' hl' => g ls' H locs hl' hH hS)
      · cases h
    | _ => simp [im_store] at h
theorem im_s_istore (C : im_C p s m args meth c cc D cl cy nL WS (nm ow) ini) {k : Nat} {F F' : im_F} (hd : decode cc F.1 = .ok (.istore k, 2)) (h : im_store nL k 2 0 F = some F') (g : im_Go p l e R s m args below meth c Q D cl ty cy ad z H0 nL cells slots F') : im_Go p l e R s m args below meth c Q D cl ty cy ad z H0 nL cells slots F := by
  obtain ⟨hx, hb, hts, hown, hK, hin, hml⟩ := C
  intro ls H locs hl hH hS
  obtain ⟨pc, L, st, M⟩ := F
  cases st with
  | nil => cases h
  | cons v r =>
    cases v with
    | int x =>
      simp only [im_store, true_and] at h
      split at h
      · rename_i hn
        cases h
        exact lv_istore hx hb hd hl hn (im_L_st1 rfl) (fun ls' hl' => g ls' H locs hl' hH hS)
      · cases h
    | _ => simp [im_store] at h
theorem im_s_lstore_n (C : im_C p s m args meth c cc D cl cy nL WS (nm ow) ini) {k : Fin 4} {F F' : im_F} (hd : decode cc F.1 = .ok (.lstore_n k, 1)) (h : im_store nL (k : Nat) 1 1 F = some F') (g : im_Go p l e R s m args below meth c Q D cl ty cy ad z H0 nL cells slots F') : im_Go p l e R s m args below meth c Q D cl ty cy ad z H0 nL cells slots F := by
  obtain ⟨hx, hb, hts, hown, hK, hin, hml⟩ := C
  intro ls H locs hl hH hS
  obtain ⟨pc, L, st, M⟩ := F
  cases st with
  | nil => cases h
  | cons v r =>
    cases v with
    | long x =>
      simp only [im_store, true_and] at h
      split at h
      · rename_i hn
        cases h
        exact lv_lstore_n hx hb hd rfl hl hn (im_L_st2 rfl) (fun ls' hl' => g ls' H locs hl' hH hS)
      · cases h
    | _ => simp [im_store] at h
theorem im_s_lstore (C : im_C p s m args meth c cc D cl cy nL WS (nm ow) ini) {k : Nat} {F F' : im_F} (hd : decode cc F.1 = .ok (.lstore k, 2)) (h : im_store nL k 2 1 F = some F') (g : im_Go p l e R s m args below meth c Q D cl ty cy ad z H0 nL cells slots F') : im_Go p l e R s m args below meth c Q D cl ty cy ad z H0 nL cells slots F := by
  obtain ⟨hx, hb, hts, hown, hK, hin, hml⟩ := C
  intro ls H locs hl hH hS
  obtain ⟨pc, L, st, M⟩ := F
  cases st with
  | nil => cases h
  | cons v r =>
    cases v with
    | long x =>
      simp only [im_store, true_and] at h
      split at h
      · rename_i hn
        cases h
        exact lv_lstore hx hb hd hl hn (im_L_st2 rfl) (fun ls' hl' => g ls' H locs hl' hH hS)
      · cases h
    | _ => simp [im_store] at h
theorem im_s_astore_n (C : im_C p s m args meth c cc D cl cy nL WS (nm ow) ini) {k : Fin 4} {F F' : im_F} (hd : decode cc F.1 = .ok (.astore_n k, 1)) (h : im_store nL (k : Nat) 1 2 F = some F') (g : im_Go p l e R s m args below meth c Q D cl ty cy ad z H0 nL cells slots F') : im_Go p l e R s m args below meth c Q D cl ty cy ad z H0 nL cells slots F := by
  obtain ⟨hx, hb, hts, hown, hK, hin, hml⟩ := C
  intro ls H locs hl hH hS
  obtain ⟨pc, L, st, M⟩ := F
  cases st with
  | nil => cases h
  | cons v r =>
    cases v with
    | ref x =>
      simp only [im_store, true_and] at h
      split at h
      · rename_i hn
        cases h
        exact lv_astore_n hx hb hd rfl hl hn (im_L_st1 rfl) (fun ls' hl' => g ls' H locs hl' hH hS)
      · cases h
    | _ => simp [im_store] at h
theorem im_s_astore (C : im_C p s m args meth c cc D cl cy nL WS (nm ow) ini) {k : Nat} {F F' : im_F} (hd : decode cc F.1 = .ok (.astore k, 2)) (h : im_store nL k 2 2 F = some F') (g : im_Go p l e R s m args below meth c Q D cl ty cy ad z H0 nL cells slots F') : im_Go p l e R s m args below meth c Q D cl ty cy ad z H0 nL cells slots F := by
  obtain ⟨hx, hb, hts, hown, hK, hin, hml⟩ := C
  intro ls H locs hl hH hS
  obtain ⟨pc, L, st, M⟩ := F
  cases st with
  | nil => cases h
  | cons v r =>
    cases v with
    | ref x =>
      simp only [im_store, true_and] at h
      split at h
      · rename_i hn
        cases h
        exact lv_astore hx hb hd hl hn (im_L_st1 rfl) (fun ls' hl' => g ls' H locs hl' hH hS)
      · cases h
    | _ => simp [im_store] at h
theorem im_s_iinc (C : im_C p s m args meth c cc D cl cy nL WS (nm ow) ini) {k : Nat} {n : Int} {F F' : im_F} (hd : decode cc F.1 = .ok (.iinc k n, 3)) (h : im_iinc nL k n F = some F') (g : im_Go p l e R s m args below meth c Q D cl ty cy ad z H0 nL cells slots F') : im_Go p l e R s m args below meth c Q D cl ty cy ad z H0 nL cells slots F := by
  obtain ⟨hx, hb, hts, hown, hK, hin, hml⟩ := C
  intro ls H locs hl hH hS
  unfold im_iinc at h
  cases hv : im_lk F.2.1 k with
  | none => rw [hv] at h; cases h
  | some v =>
    rw [hv] at h
    cases v with
    | int x =>
      simp only at h
      split at h
      · rename_i hn
        cases h
        obtain ⟨j, hj⟩ := im_lk_at (ad := ad) hv
        exact lv_iinc hx hb hd hl hj rfl hn (im_L_st1 rfl) (fun ls' hl' => g ls' H locs hl' hH hS)
      · cases h
    | _ => simp at h
theorem im_s_iadd (C : im_C p s m args meth c cc D cl cy nL WS (nm ow) ini)  {F F' : im_F} (hd : decode cc F.1 = .ok (.iadd, 1)) (h : im_b32 (fun x y => x + y) F = some F') (g : im_Go p l e R s m args below meth c Q D cl ty cy ad z H0 nL cells slots F') : im_Go p l e R s m args below meth c Q D cl ty cy ad z H0 nL cells slots F := by
  obtain ⟨hx, hb, hts, hown, hK, hin, hml⟩ := C
  intro ls H locs hl hH hS
  obtain ⟨pc, L, st, M⟩ := F
  cases st with
  | nil => cases h
  | cons w0 r0 =>
    cases w0 with
    | int y =>
      cases r0 with
      | nil => first | cases h | simp at h | (split at h <;> cases h)
      | cons w1 r1 =>
        cases w1 with
        | int x =>
          cases h
          exact lv_iadd hx hb hd (g ls H locs hl hH hS)
        | _ => first | cases h | (simp at h; done)
    | _ => first | cases h | (simp at h; done)
theorem im_s_isub (C : im_C p s m args meth c cc D cl cy nL WS (nm ow) ini)  {F F' : im_F} (hd : decode cc F.1 = .ok (.isub, 1)) (h : im_b32 (fun x y => x - y) F = some F') (g : im_Go p l e R s m args below meth c Q D cl ty cy ad z H0 nL cells slots F') : im_Go p l e R s m args below meth c Q D cl ty cy ad z H0 nL cells slots F := by
  obtain ⟨hx, hb, hts, hown, hK, hin, hml⟩ := C
  intro ls H locs hl hH hS
  obtain ⟨pc, L, st, M⟩ := F
  cases st with
  | nil => cases h
  | cons w0 r0 =>
    cases w0 with
    | int y =>
      cases r0 with
      | nil => first | cases h | simp at h | (split at h <;> cases h)
      | cons w1 r1 =>
        cases w1 with
        | int x =>
          cases h
          exact lv_isub hx hb hd (g ls H locs hl hH hS)
        | _ => first | cases h | (simp at h; done)
    | _ => first | cases h | (simp at h; done)
theorem im_s_imul (C : im_C p s m args meth c cc D cl cy nL WS (nm ow) ini)  {F F' : im_F} (hd : decode cc F.1 = .ok (.imul, 1)) (h : im_b32 (fun x y => x * y) F = some F') (g : im_Go p l e R s m args below meth c Q D cl ty cy ad z H0 nL cells slots F') : im_Go p l e R s m args below meth c Q D cl ty cy ad z H0 nL cells slots F := by
  obtain ⟨hx, hb, hts, hown, hK, hin, hml⟩ := C
  intro ls H locs hl hH hS
  obtain ⟨pc, L, st, M⟩ := F
  cases st with
  | nil => cases h
  | cons w0 r0 =>
    cases w0 with
    | int y =>
      cases r0 with
      | nil => first | cases h | simp at h | (split at h <;> cases h)
      | cons w1 r1 =>
        cases w1 with
        | int x =>
          cases h
          exact lv_imul hx hb hd (g ls H locs hl hH hS)
        | _ => first | cases h | (simp at h; done)
    | _ => first | cases h | (simp at h; done)
theorem im_s_iand (C : im_C p s m args meth c cc D cl cy nL WS (nm ow) ini)  {F F' : im_F} (hd : decode cc F.1 = .ok (.iand, 1)) (h : im_b32 (fun x y => x &&& y) F = some F') (g : im_Go p l e R s m args below meth c Q D cl ty cy ad z H0 nL cells slots F') : im_Go p l e R s m args below meth c Q D cl ty cy ad z H0 nL cells slots F := by
  obtain ⟨hx, hb, hts, hown, hK, hin, hml⟩ := C
  intro ls H locs hl hH hS
  obtain ⟨pc, L, st, M⟩ := F
  cases st with
  | nil => cases h
  | cons w0 r0 =>
    cases w0 with
    | int y =>
      cases r0 with
      | nil => first | cases h | simp at h | (split at h <;> cases h)
      | cons w1 r1 =>
        cases w1 with
        | int x =>
          cases h
          exact lv_iand hx hb hd (g ls H locs hl hH hS)
        | _ => first | cases h | (simp at h; done)
    | _ => first | cases h | (simp at h; done)
theorem im_s_ior (C : im_C p s m args meth c cc D cl cy nL WS (nm ow) ini)  {F F' : im_F} (hd : decode cc F.1 = .ok (.ior, 1)) (h : im_b32 (fun x y => x ||| y) F = some F') (g : im_Go p l e R s m args below meth c Q D cl ty cy ad z H0 nL cells slots F') : im_Go p l e R s m args below meth c Q D cl ty cy ad z H0 nL cells slots F := by
  obtain ⟨hx, hb, hts, hown, hK, hin, hml⟩ := C
  intro ls H locs hl hH hS
  obtain ⟨pc, L, st, M⟩ := F
  cases st with
  | nil => cases h
  | cons w0 r0 =>
    cases w0 with
    | int y =>
      cases r0 with
      | nil => first | cases h | simp at h | (split at h <;> cases h)
      | cons w1 r1 =>
        cases w1 with
        | int x =>
          cases h
          exact lv_ior hx hb hd (g ls H locs hl hH hS)
        | _ => first | cases h | (simp at h; done)
    | _ => first | cases h | (simp at h; done)
theorem im_s_ixor (C : im_C p s m args meth c cc D cl cy nL WS (nm ow) ini)  {F F' : im_F} (hd : decode cc F.1 = .ok (.ixor, 1)) (h : im_b32 (fun x y => x ^^^ y) F = some F') (g : im_Go p l e R s m args below meth c Q D cl ty cy ad z H0 nL cells slots F') : im_Go p l e R s m args below meth c Q D cl ty cy ad z H0 nL cells slots F := by
  obtain ⟨hx, hb, hts, hown, hK, hin, hml⟩ := C
  intro ls H locs hl hH hS
  obtain ⟨pc, L, st, M⟩ := F
  cases st with
  | nil => cases h
  | cons w0 r0 =>
    cases w0 with
    | int y =>
      cases r0 with
      | nil => first | cases h | simp at h | (split at h <;> cases h)
      | cons w1 r1 =>
        cases w1 with
        | int x =>
          cases h
          exact lv_ixor hx hb hd (g ls H locs hl hH hS)
        | _ => first | cases h | (simp at h; done)
    | _ => first | cases h | (simp at h; done)
theorem im_s_ishl (C : im_C p s m args meth c cc D cl cy nL WS (nm ow) ini)  {F F' : im_F} (hd : decode cc F.1 = .ok (.ishl, 1)) (h : im_b32 (fun x y => x <<< (y &&& 31)) F = some F') (g : im_Go p l e R s m args below meth c Q D cl ty cy ad z H0 nL cells slots F') : im_Go p l e R s m args below meth c Q D cl ty cy ad z H0 nL cells slots F := by
  obtain ⟨hx, hb, hts, hown, hK, hin, hml⟩ := C
  intro ls H locs hl hH hS
  obtain ⟨pc, L, st, M⟩ := F
  cases st with
  | nil => cases h
  | cons w0 r0 =>
    cases w0 with
    | int y =>
      cases r0 with
      | nil => first | cases h | simp at h | (split at h <;> cases h)
      | cons w1 r1 =>
        cases w1 with
        | int x =>
          cases h
          exact lv_ishl hx hb hd (g ls H locs hl hH hS)
        | _ => first | cases h | (simp at h; done)
    | _ => first | cases h | (simp at h; done)
theorem im_s_ishr (C : im_C p s m args meth c cc D cl cy nL WS (nm ow) ini)  {F F' : im_F} (hd : decode cc F.1 = .ok (.ishr, 1)) (h : im_b32 (fun x y => x >>> (y &&& 31)) F = some F') (g : im_Go p l e R s m args below meth c Q D cl ty cy ad z H0 nL cells slots F') : im_Go p l e R s m args below meth c Q D cl ty cy ad z H0 nL cells slots F := by
  obtain ⟨hx, hb, hts, hown, hK, hin, hml⟩ := C
  intro ls H locs hl hH hS
  obtain ⟨pc, L, st, M⟩ := F
  cases st with
  | nil => cases h
  | cons w0 r0 =>
    cases w0 with
    | int y =>
      cases r0 with
      | nil => first | cases h | simp at h | (split at h <;> cases h)
      | cons w1 r1 =>
        cases w1 with
        | int x =>
          cases h
          exact lv_ishr hx hb hd (g ls H locs hl hH hS)
        | _ => first | cases h | (simp at h; done)
    | _ => first | cases h | (simp at h; done)
theorem im_s_iushr (C : im_C p s m args meth c cc D cl cy nL WS (nm ow) ini)  {F F' : im_F} (hd : decode cc F.1 = .ok (.iushr, 1)) (h : im_b32 (fun x y => (x.toUInt32 >>> (y.toUInt32 &&& Int32.toUInt32 31)).toInt32) F = some F') (g : im_Go p l e R s m args below meth c Q D cl ty cy ad z H0 nL cells slots F') : im_Go p l e R s m args below meth c Q D cl ty cy ad z H0 nL cells slots F := by
  obtain ⟨hx, hb, hts, hown, hK, hin, hml⟩ := C
  intro ls H locs hl hH hS
  obtain ⟨pc, L, st, M⟩ := F
  cases st with
  | nil => cases h
  | cons w0 r0 =>
    cases w0 with
    | int y =>
      cases r0 with
      | nil => first | cases h | simp at h | (split at h <;> cases h)
      | cons w1 r1 =>
        cases w1 with
        | int x =>
          cases h
          exact lv_iushr hx hb hd rfl (g ls H locs hl hH hS)
        | _ => first | cases h | (simp at h; done)
    | _ => first | cases h | (simp at h; done)
theorem im_s_idiv (C : im_C p s m args meth c cc D cl cy nL WS (nm ow) ini)  {F F' : im_F} (hd : decode cc F.1 = .ok (.idiv, 1)) (h : im_d32 (fun x y => x / y) F = some F') (g : im_Go p l e R s m args below meth c Q D cl ty cy ad z H0 nL cells slots F') : im_Go p l e R s m args below meth c Q D cl ty cy ad z H0 nL cells slots F := by
  obtain ⟨hx, hb, hts, hown, hK, hin, hml⟩ := C
  intro ls H locs hl hH hS
  obtain ⟨pc, L, st, M⟩ := F
  cases st with
  | nil => cases h
  | cons w0 r0 =>
    cases w0 with
    | int y =>
      cases r0 with
      | nil => first | cases h | simp at h | (split at h <;> cases h)
      | cons w1 r1 =>
        cases w1 with
        | int x =>
          simp only [im_d32] at h
          split at h
          · cases h
          · rename_i hne
            cases h
            exact lv_idiv hx hb hd hne (g ls H locs hl hH hS)
        | _ => first | cases h | (simp at h; done)
    | _ => first | cases h | (simp at h; done)
theorem im_s_irem (C : im_C p s m args meth c cc D cl cy nL WS (nm ow) ini)  {F F' : im_F} (hd : decode cc F.1 = .ok (.irem, 1)) (h : im_d32 (fun x y => x - x / y * y) F = some F') (g : im_Go p l e R s m args below meth c Q D cl ty cy ad z H0 nL cells slots F') : im_Go p l e R s m args below meth c Q D cl ty cy ad z H0 nL cells slots F := by
  obtain ⟨hx, hb, hts, hown, hK, hin, hml⟩ := C
  intro ls H locs hl hH hS
  obtain ⟨pc, L, st, M⟩ := F
  cases st with
  | nil => cases h
  | cons w0 r0 =>
    cases w0 with
    | int y =>
      cases r0 with
      | nil => first | cases h | simp at h | (split at h <;> cases h)
      | cons w1 r1 =>
        cases w1 with
        | int x =>
          simp only [im_d32] at h
          split at h
          · cases h
          · rename_i hne
            cases h
            exact lv_irem hx hb hd hne (g ls H locs hl hH hS)
        | _ => first | cases h | (simp at h; done)
    | _ => first | cases h | (simp at h; done)
theorem im_s_ladd (C : im_C p s m args meth c cc D cl cy nL WS (nm ow) ini)  {F F' : im_F} (hd : decode cc F.1 = .ok (.ladd, 1)) (h : im_b64 (fun x y => x + y) F = some F') (g : im_Go p l e R s m args below meth c Q D cl ty cy ad z H0 nL cells slots F') : im_Go p l e R s m args below meth c Q D cl ty cy ad z H0 nL cells slots F := by
  obtain ⟨hx, hb, hts, hown, hK, hin, hml⟩ := C
  intro ls H locs hl hH hS
  obtain ⟨pc, L, st, M⟩ := F
  cases st with
  | nil => cases h
  | cons w0 r0 =>
    cases w0 with
    | long y =>
      cases r0 with
      | nil => first | cases h | simp at h | (split at h <;> cases h)
      | cons w1 r1 =>
        cases w1 with
        | long x =>
          cases h
          exact lv_ladd hx hb hd (g ls H locs hl hH hS)
        | _ => first | cases h | (simp at h; done)
    | _ => first | cases h | (simp at h; done)
theorem im_s_lsub (C : im_C p s m args meth c cc D cl cy nL WS (nm ow) ini)  {F F' : im_F} (hd : decode cc F.1 = .ok (.lsub, 1)) (h : im_b64 (fun x y => x - y) F = some F') (g : im_Go p l e R s m args below meth c Q D cl ty cy ad z H0 nL cells slots F') : im_Go p l e R s m args below meth c Q D cl ty cy ad z H0 nL cells slots F := by
  obtain ⟨hx, hb, hts, hown, hK, hin, hml⟩ := C
  intro ls H locs hl hH hS
  obtain ⟨pc, L, st, M⟩ := F
  cases st with
  | nil => cases h
  | cons w0 r0 =>
    cases w0 with
    | long y =>
      cases r0 with
      | nil => first | cases h | simp at h | (split at h <;> cases h)
      | cons w1 r1 =>
        cases w1 with
        | long x =>
          cases h
          exact lv_lsub hx hb hd (g ls H locs hl hH hS)
        | _ => first | cases h | (simp at h; done)
    | _ => first | cases h | (simp at h; done)
theorem im_s_lmul (C : im_C p s m args meth c cc D cl cy nL WS (nm ow) ini)  {F F' : im_F} (hd : decode cc F.1 = .ok (.lmul, 1)) (h : im_b64 (fun x y => x * y) F = some F') (g : im_Go p l e R s m args below meth c Q D cl ty cy ad z H0 nL cells slots F') : im_Go p l e R s m args below meth c Q D cl ty cy ad z H0 nL cells slots F := by
  obtain ⟨hx, hb, hts, hown, hK, hin, hml⟩ := C
  intro ls H locs hl hH hS
  obtain ⟨pc, L, st, M⟩ := F
  cases st with
  | nil => cases h
  | cons w0 r0 =>
    cases w0 with
    | long y =>
      cases r0 with
      | nil => first | cases h | simp at h | (split at h <;> cases h)
      | cons w1 r1 =>
        cases w1 with
        | long x =>
          cases h
          exact lv_lmul hx hb hd (g ls H locs hl hH hS)
        | _ => first | cases h | (simp at h; done)
    | _ => first | cases h | (simp at h; done)
theorem im_s_land (C : im_C p s m args meth c cc D cl cy nL WS (nm ow) ini)  {F F' : im_F} (hd : decode cc F.1 = .ok (.land, 1)) (h : im_b64 (fun x y => x &&& y) F = some F') (g : im_Go p l e R s m args below meth c Q D cl ty cy ad z H0 nL cells slots F') : im_Go p l e R s m args below meth c Q D cl ty cy ad z H0 nL cells slots F := by
  obtain ⟨hx, hb, hts, hown, hK, hin, hml⟩ := C
  intro ls H locs hl hH hS
  obtain ⟨pc, L, st, M⟩ := F
  cases st with
  | nil => cases h
  | cons w0 r0 =>
    cases w0 with
    | long y =>
      cases r0 with
      | nil => first | cases h | simp at h | (split at h <;> cases h)
      | cons w1 r1 =>
        cases w1 with
        | long x =>
          cases h
          exact lv_land hx hb hd (g ls H locs hl hH hS)
        | _ => first | cases h | (simp at h; done)
    | _ => first | cases h | (simp at h; done)
theorem im_s_lor (C : im_C p s m args meth c cc D cl cy nL WS (nm ow) ini)  {F F' : im_F} (hd : decode cc F.1 = .ok (.lor, 1)) (h : im_b64 (fun x y => x ||| y) F = some F') (g : im_Go p l e R s m args below meth c Q D cl ty cy ad z H0 nL cells slots F') : im_Go p l e R s m args below meth c Q D cl ty cy ad z H0 nL cells slots F := by
  obtain ⟨hx, hb, hts, hown, hK, hin, hml⟩ := C
  intro ls H locs hl hH hS
  obtain ⟨pc, L, st, M⟩ := F
  cases st with
  | nil => cases h
  | cons w0 r0 =>
    cases w0 with
    | long y =>
      cases r0 with
      | nil => first | cases h | simp at h | (split at h <;> cases h)
      | cons w1 r1 =>
        cases w1 with
        | long x =>
          cases h
          exact lv_lor hx hb hd (g ls H locs hl hH hS)
        | _ => first | cases h | (simp at h; done)
    | _ => first | cases h | (simp at h; done)
theorem im_s_lxor (C : im_C p s m args meth c cc D cl cy nL WS (nm ow) ini)  {F F' : im_F} (hd : decode cc F.1 = .ok (.lxor, 1)) (h : im_b64 (fun x y => x ^^^ y) F = some F') (g : im_Go p l e R s m args below meth c Q D cl ty cy ad z H0 nL cells slots F') : im_Go p l e R s m args below meth c Q D cl ty cy ad z H0 nL cells slots F := by
  obtain ⟨hx, hb, hts, hown, hK, hin, hml⟩ := C
  intro ls H locs hl hH hS
  obtain ⟨pc, L, st, M⟩ := F
  cases st with
  | nil => cases h
  | cons w0 r0 =>
    cases w0 with
    | long y =>
      cases r0 with
      | nil => first | cases h | simp at h | (split at h <;> cases h)
      | cons w1 r1 =>
        cases w1 with
        | long x =>
          cases h
          exact lv_lxor hx hb hd (g ls H locs hl hH hS)
        | _ => first | cases h | (simp at h; done)
    | _ => first | cases h | (simp at h; done)
theorem im_s_ldiv (C : im_C p s m args meth c cc D cl cy nL WS (nm ow) ini)  {F F' : im_F} (hd : decode cc F.1 = .ok (.ldiv, 1)) (h : im_d64 (fun x y => x / y) F = some F') (g : im_Go p l e R s m args below meth c Q D cl ty cy ad z H0 nL cells slots F') : im_Go p l e R s m args below meth c Q D cl ty cy ad z H0 nL cells slots F := by
  obtain ⟨hx, hb, hts, hown, hK, hin, hml⟩ := C
  intro ls H locs hl hH hS
  obtain ⟨pc, L, st, M⟩ := F
  cases st with
  | nil => cases h
  | cons w0 r0 =>
    cases w0 with
    | long y =>
      cases r0 with
      | nil => first | cases h | simp at h | (split at h <;> cases h)
      | cons w1 r1 =>
        cases w1 with
        | long x =>
          simp only [im_d64] at h
          split at h
          · cases h
          · rename_i hne
            cases h
            exact lv_ldiv hx hb hd hne (g ls H locs hl hH hS)
        | _ => first | cases h | (simp at h; done)
    | _ => first | cases h | (simp at h; done)
theorem im_s_lrem (C : im_C p s m args meth c cc D cl cy nL WS (nm ow) ini)  {F F' : im_F} (hd : decode cc F.1 = .ok (.lrem, 1)) (h : im_d64 (fun x y => x - x / y * y) F = some F') (g : im_Go p l e R s m args below meth c Q D cl ty cy ad z H0 nL cells slots F') : im_Go p l e R s m args below meth c Q D cl ty cy ad z H0 nL cells slots F := by
  obtain ⟨hx, hb, hts, hown, hK, hin, hml⟩ := C
  intro ls H locs hl hH hS
  obtain ⟨pc, L, st, M⟩ := F
  cases st with
  | nil => cases h
  | cons w0 r0 =>
    cases w0 with
    | long y =>
      cases r0 with
      | nil => first | cases h | simp at h | (split at h <;> cases h)
      | cons w1 r1 =>
        cases w1 with
        | long x =>
          simp only [im_d64] at h
          split at h
          · cases h
          · rename_i hne
            cases h
            exact lv_lrem hx hb hd hne (g ls H locs hl hH hS)
        | _ => first | cases h | (simp at h; done)
    | _ => first | cases h | (simp at h; done)
theorem im_s_lshl (C : im_C p s m args meth c cc D cl cy nL WS (nm ow) ini)  {F F' : im_F} (hd : decode cc F.1 = .ok (.lshl, 1)) (h : im_s64 (fun x y => x <<< (y.toInt64 &&& 63)) F = some F') (g : im_Go p l e R s m args below meth c Q D cl ty cy ad z H0 nL cells slots F') : im_Go p l e R s m args below meth c Q D cl ty cy ad z H0 nL cells slots F := by
  obtain ⟨hx, hb, hts, hown, hK, hin, hml⟩ := C
  intro ls H locs hl hH hS
  obtain ⟨pc, L, st, M⟩ := F
  cases st with
  | nil => cases h
  | cons w0 r0 =>
    cases w0 with
    | int y =>
      cases r0 with
      | nil => first | cases h | simp at h | (split at h <;> cases h)
      | cons w1 r1 =>
        cases w1 with
        | long x =>
          cases h
          exact lv_lshl hx hb hd rfl (g ls H locs hl hH hS)
        | _ => first | cases h | (simp at h; done)
    | _ => first | cases h | (simp at h; done)
theorem im_s_lshr (C : im_C p s m args meth c cc D cl cy nL WS (nm ow) ini)  {F F' : im_F} (hd : decode cc F.1 = .ok (.lshr, 1)) (h : im_s64 (fun x y => x >>> (y.toInt64 &&& 63)) F = some F') (g : im_Go p l e R s m args below meth c Q D cl ty cy ad z H0 nL cells slots F') : im_Go p l e R s m args below meth c Q D cl ty cy ad z H0 nL cells slots F := by
  obtain ⟨hx, hb, hts, hown, hK, hin, hml⟩ := C
  intro ls H locs hl hH hS
  obtain ⟨pc, L, st, M⟩ := F
  cases st with
  | nil => cases h
  | cons w0 r0 =>
    cases w0 with
    | int y =>
      cases r0 with
      | nil => first | cases h | simp at h | (split at h <;> cases h)
      | cons w1 r1 =>
        cases w1 with
        | long x =>
          cases h
          exact lv_lshr hx hb hd rfl (g ls H locs hl hH hS)
        | _ => first | cases h | (simp at h; done)
    | _ => first | cases h | (simp at h; done)
theorem im_s_lushr (C : im_C p s m args meth c cc D cl cy nL WS (nm ow) ini)  {F F' : im_F} (hd : decode cc F.1 = .ok (.lushr, 1)) (h : im_s64 (fun x y => (x.toUInt64 >>> (y.toInt64.toUInt64 &&& Int64.toUInt64 63)).toInt64) F = some F') (g : im_Go p l e R s m args below meth c Q D cl ty cy ad z H0 nL cells slots F') : im_Go p l e R s m args below meth c Q D cl ty cy ad z H0 nL cells slots F := by
  obtain ⟨hx, hb, hts, hown, hK, hin, hml⟩ := C
  intro ls H locs hl hH hS
  obtain ⟨pc, L, st, M⟩ := F
  cases st with
  | nil => cases h
  | cons w0 r0 =>
    cases w0 with
    | int y =>
      cases r0 with
      | nil => first | cases h | simp at h | (split at h <;> cases h)
      | cons w1 r1 =>
        cases w1 with
        | long x =>
          cases h
          exact lv_lushr hx hb hd rfl (g ls H locs hl hH hS)
        | _ => first | cases h | (simp at h; done)
    | _ => first | cases h | (simp at h; done)
theorem im_s_lcmp (C : im_C p s m args meth c cc D cl cy nL WS (nm ow) ini)  {F F' : im_F} (hd : decode cc F.1 = .ok (.lcmp, 1)) (h : im_lcmp F = some F') (g : im_Go p l e R s m args below meth c Q D cl ty cy ad z H0 nL cells slots F') : im_Go p l e R s m args below meth c Q D cl ty cy ad z H0 nL cells slots F := by
  obtain ⟨hx, hb, hts, hown, hK, hin, hml⟩ := C
  intro ls H locs hl hH hS
  obtain ⟨pc, L, st, M⟩ := F
  cases st with
  | nil => cases h
  | cons w0 r0 =>
    cases w0 with
    | long y =>
      cases r0 with
      | nil => first | cases h | simp at h | (split at h <;> cases h)
      | cons w1 r1 =>
        cases w1 with
        | long x =>
          cases h
          exact W.lcmp hx hb hd (g ls H locs hl hH hS)
        | _ => first | cases h | (simp at h; done)
    | _ => first | cases h | (simp at h; done)
theorem im_s_ineg (C : im_C p s m args meth c cc D cl cy nL WS (nm ow) ini)  {F F' : im_F} (hd : decode cc F.1 = .ok (.ineg, 1)) (h : im_c32 (fun x => -x) F = some F') (g : im_Go p l e R s m args below meth c Q D cl ty cy ad z H0 nL cells slots F') : im_Go p l e R s m args below meth c Q D cl ty cy ad z H0 nL cells slots F := by
  obtain ⟨hx, hb, hts, hown, hK, hin, hml⟩ := C
  intro ls H locs hl hH hS
  obtain ⟨pc, L, st, M⟩ := F
  cases st with
  | nil => cases h
  | cons w0 r0 =>
    cases w0 with
    | int x =>
      cases h
      exact lv_ineg hx hb hd (g ls H locs hl hH hS)
    | _ => first | cases h | (simp at h; done)
theorem im_s_i2b (C : im_C p s m args meth c cc D cl cy nL WS (nm ow) ini)  {F F' : im_F} (hd : decode cc F.1 = .ok (.i2b, 1)) (h : im_c32 (fun x => x.toInt8.toInt32) F = some F') (g : im_Go p l e R s m args below meth c Q D cl ty cy ad z H0 nL cells slots F') : im_Go p l e R s m args below meth c Q D cl ty cy ad z H0 nL cells slots F := by
  obtain ⟨hx, hb, hts, hown, hK, hin, hml⟩ := C
  intro ls H locs hl hH hS
  obtain ⟨pc, L, st, M⟩ := F
  cases st with
  | nil => cases h
  | cons w0 r0 =>
    cases w0 with
    | int x =>
      cases h
      exact lv_i2b hx hb hd rfl (g ls H locs hl hH hS)
    | _ => first | cases h | (simp at h; done)
theorem im_s_i2s (C : im_C p s m args meth c cc D cl cy nL WS (nm ow) ini)  {F F' : im_F} (hd : decode cc F.1 = .ok (.i2s, 1)) (h : im_c32 (fun x => x.toInt16.toInt32) F = some F') (g : im_Go p l e R s m args below meth c Q D cl ty cy ad z H0 nL cells slots F') : im_Go p l e R s m args below meth c Q D cl ty cy ad z H0 nL cells slots F := by
  obtain ⟨hx, hb, hts, hown, hK, hin, hml⟩ := C
  intro ls H locs hl hH hS
  obtain ⟨pc, L, st, M⟩ := F
  cases st with
  | nil => cases h
  | cons w0 r0 =>
    cases w0 with
    | int x =>
      cases h
      exact lv_i2s hx hb hd rfl (g ls H locs hl hH hS)
    | _ => first | cases h | (simp at h; done)
theorem im_s_i2c (C : im_C p s m args meth c cc D cl cy nL WS (nm ow) ini)  {F F' : im_F} (hd : decode cc F.1 = .ok (.i2c, 1)) (h : im_c32 (fun x => (x.toUInt32 % 65536).toInt32) F = some F') (g : im_Go p l e R s m args below meth c Q D cl ty cy ad z H0 nL cells slots F') : im_Go p l e R s m args below meth c Q D cl ty cy ad z H0 nL cells slots F := by
  obtain ⟨hx, hb, hts, hown, hK, hin, hml⟩ := C
  intro ls H locs hl hH hS
  obtain ⟨pc, L, st, M⟩ := F
  cases st with
  | nil => cases h
  | cons w0 r0 =>
    cases w0 with
    | int x =>
      cases h
      exact lv_i2c hx hb hd rfl (g ls H locs hl hH hS)
    | _ => first | cases h | (simp at h; done)
theorem im_s_i2l (C : im_C p s m args meth c cc D cl cy nL WS (nm ow) ini)  {F F' : im_F} (hd : decode cc F.1 = .ok (.i2l, 1)) (h : im_cl F = some F') (g : im_Go p l e R s m args below meth c Q D cl ty cy ad z H0 nL cells slots F') : im_Go p l e R s m args below meth c Q D cl ty cy ad z H0 nL cells slots F := by
  obtain ⟨hx, hb, hts, hown, hK, hin, hml⟩ := C
  intro ls H locs hl hH hS
  obtain ⟨pc, L, st, M⟩ := F
  cases st with
  | nil => cases h
  | cons w0 r0 =>
    cases w0 with
    | int x =>
      cases h
      exact lv_i2l hx hb hd rfl (g ls H locs hl hH hS)
    | _ => first | cases h | (simp at h; done)
theorem im_s_l2i (C : im_C p s m args meth c cc D cl cy nL WS (nm ow) ini)  {F F' : im_F} (hd : decode cc F.1 = .ok (.l2i, 1)) (h : im_ci F = some F') (g : im_Go p l e R s m args below meth c Q D cl ty cy ad z H0 nL cells slots F') : im_Go p l e R s m args below meth c Q D cl ty cy ad z H0 nL cells slots F := by
  obtain ⟨hx, hb, hts, hown, hK, hin, hml⟩ := C
  intro ls H locs hl hH hS
  obtain ⟨pc, L, st, M⟩ := F
  cases st with
  | nil => cases h
  | cons w0 r0 =>
    cases w0 with
    | long x =>
      cases h
      exact lv_l2i hx hb hd rfl (g ls H locs hl hH hS)
    | _ => first | cases h | (simp at h; done)
theorem im_s_lneg (C : im_C p s m args meth c cc D cl cy nL WS (nm ow) ini)  {F F' : im_F} (hd : decode cc F.1 = .ok (.lneg, 1)) (h : im_n64 F = some F') (g : im_Go p l e R s m args below meth c Q D cl ty cy ad z H0 nL cells slots F') : im_Go p l e R s m args below meth c Q D cl ty cy ad z H0 nL cells slots F := by
  obtain ⟨hx, hb, hts, hown, hK, hin, hml⟩ := C
  intro ls H locs hl hH hS
  obtain ⟨pc, L, st, M⟩ := F
  cases st with
  | nil => cases h
  | cons w0 r0 =>
    cases w0 with
    | long x =>
      cases h
      exact lv_lneg hx hb hd (g ls H locs hl hH hS)
    | _ => first | cases h | (simp at h; done)
theorem im_s_goto (C : im_C p s m args meth c cc D cl cy nL WS (nm ow) ini) {off : Int} {F F' : im_F} (hd : decode cc F.1 = .ok (.goto off, 3)) (h : im_jmp F.1 off F.2 = some F') (g : im_Go p l e R s m args below meth c Q D cl ty cy ad z H0 nL cells slots F') : im_Go p l e R s m args below meth c Q D cl ty cy ad z H0 nL cells slots F := by
  obtain ⟨hx, hb, hts, hown, hK, hin, hml⟩ := C
  intro ls H locs hl hH hS
  obtain ⟨ht, rfl⟩ := im_jmp_some h
  exact lv_goto hx hb hd ht (g ls H locs hl hH hS)
theorem im_s_if_eq (C : im_C p s m args meth c cc D cl cy nL WS (nm ow) ini) {off : Int} {F F' : im_F} (hd : decode cc F.1 = .ok (.ifCond .eq off, 3)) (h : im_br1 (fun x => decide (x = 0)) off F = some F') (g : im_Go p l e R s m args below meth c Q D cl ty cy ad z H0 nL cells slots F') : im_Go p l e R s m args below meth c Q D cl ty cy ad z H0 nL cells slots F := by
  obtain ⟨hx, hb, hts, hown, hK, hin, hml⟩ := C
  intro ls H locs hl hH hS
  obtain ⟨pc, L, st, M⟩ := F
  cases st with
  | nil => cases h
  | cons w0 r0 =>
    cases w0 with
    | int x =>
      simp only [im_br1] at h
      split at h
      · rename_i h0
        by_cases hq : x = 0
        · rw [if_pos (decide_eq_true hq)] at h
          cases h
          exact lv_if_eq hx hb hd (im_tgt_ok h0) (fun _ => g ls H locs hl hH hS) (fun q => absurd hq q)
        · rw [if_neg (fun q => hq (of_decide_eq_true q))] at h
          cases h
          exact lv_if_eq hx hb hd (im_tgt_ok h0) (fun q => absurd q hq) (fun _ => g ls H locs hl hH hS)
      · cases h
    | _ => first | cases h | (simp at h; done)
theorem im_s_icmp_eq (C : im_C p s m args meth c cc D cl cy nL WS (nm ow) ini) {off : Int} {F F' : im_F} (hd : decode cc F.1 = .ok (.if_icmp .eq off, 3)) (h : im_br2 (fun x y => decide (x = y)) off F = some F') (g : im_Go p l e R s m args below meth c Q D cl ty cy ad z H0 nL cells slots F') : im_Go p l e R s m args below meth c Q D cl ty cy ad z H0 nL cells slots F := by
  obtain ⟨hx, hb, hts, hown, hK, hin, hml⟩ := C
  intro ls H locs hl hH hS
  obtain ⟨pc, L, st, M⟩ := F
  cases st with
  | nil => cases h
  | cons w0 r0 =>
    cases w0 with
    | int y =>
      cases r0 with
      | nil => first | cases h | simp at h | (split at h <;> cases h)
      | cons w1 r1 =>
        cases w1 with
        | int x =>
          simp only [im_br2] at h
          split at h
          · rename_i h0
            by_cases hq : x = y
            · rw [if_pos (decide_eq_true hq)] at h
              cases h
              exact lv_icmp_eq hx hb hd (im_tgt_ok h0) (fun _ => g ls H locs hl hH hS) (fun q => absurd hq q)
            · rw [if_neg (fun q => hq (of_decide_eq_true q))] at h
              cases h
              exact lv_icmp_eq hx hb hd (im_tgt_ok h0) (fun q => absurd q hq) (fun _ => g ls H locs hl hH hS)
          · cases h
        | _ => first | cases h | (simp at h; done)
    | _ => first | cases h | (simp at h; done)
theorem im_s_if_ne (C : im_C p s m args meth c cc D cl cy nL WS (nm ow) ini) {off : Int} {F F' : im_F} (hd : decode cc F.1 = .ok (.ifCond .ne off, 3)) (h : im_br1 (fun x => decide (¬ x = 0)) off F = some F') (g : im_Go p l e R s m args below meth c Q D cl ty cy ad z H0 nL cells slots F') : im_Go p l e R s m args below meth c Q D cl ty cy ad z H0 nL cells slots F := by
  obtain ⟨hx, hb, hts, hown, hK, hin, hml⟩ := C
  intro ls H locs hl hH hS
  obtain ⟨pc, L, st, M⟩ := F
  cases st with
  | nil => cases h
  | cons w0 r0 =>
    cases w0 with
    | int x =>
      simp only [im_br1] at h
      split at h
      · rename_i h0
        by_cases hq : ¬ x = 0
        · rw [if_pos (decide_eq_true hq)] at h
          cases h
          exact lv_if_ne hx hb hd (im_tgt_ok h0) (fun _ => g ls H locs hl hH hS) (fun q => absurd q hq)
        · rw [if_neg (fun q => hq (of_decide_eq_true q))] at h
          cases h
          exact lv_if_ne hx hb hd (im_tgt_ok h0) (fun q => absurd q hq) (fun _ => g ls H locs hl hH hS)
      · cases h
    | _ => first | cases h | (simp at h; done)
theorem im_s_icmp_ne (C : im_C p s m args meth c cc D cl cy nL WS (nm ow) ini) {off : Int} {F F' : im_F} (hd : decode cc F.1 = .ok (.if_icmp .ne off, 3)) (h : im_br2 (fun x y => decide (¬ x = y)) off F = some F') (g : im_Go p l e R s m args below meth c Q D cl ty cy ad z H0 nL cells slots F') : im_Go p l e R s m args below meth c Q D cl ty cy ad z H0 nL cells slots F := by
  obtain ⟨hx, hb, hts, hown, hK, hin, hml⟩ := C
  intro ls H locs hl hH hS
  obtain ⟨pc, L, st, M⟩ := F
  cases st with
  | nil => cases h
  | cons w0 r0 =>
    cases w0 with
    | int y =>
      cases r0 with
      | nil => first | cases h | simp at h | (split at h <;> cases h)
      | cons w1 r1 =>
        cases w1 with
        | int x =>
          simp only [im_br2] at h
          split at h
          · rename_i h0
            by_cases hq : ¬ x = y
            · rw [if_pos (decide_eq_true hq)] at h
              cases h
              exact lv_icmp_ne hx hb hd (im_tgt_ok h0) (fun _ => g ls H locs hl hH hS) (fun q => absurd q hq)
            · rw [if_neg (fun q => hq (of_decide_eq_true q))] at h
              cases h
              exact lv_icmp_ne hx hb hd (im_tgt_ok h0) (fun q => absurd q hq) (fun _ => g ls H locs hl hH hS)
          · cases h
        | _ => first | cases h | (simp at h; done)
    | _ => first | cases h | (simp at h; done)
theorem im_s_if_lt (C : im_C p s m args meth c cc D cl cy nL WS (nm ow) ini) {off : Int} {F F' : im_F} (hd : decode cc F.1 = .ok (.ifCond .lt off, 3)) (h : im_br1 (fun x => decide (x < 0)) off F = some F') (g : im_Go p l e R s m args below meth c Q D cl ty cy ad z H0 nL cells slots F') : im_Go p l e R s m args below meth c Q D cl ty cy ad z H0 nL cells slots F := by
  obtain ⟨hx, hb, hts, hown, hK, hin, hml⟩ := C
  intro ls H locs hl hH hS
  obtain ⟨pc, L, st, M⟩ := F
  cases st with
  | nil => cases h
  | cons w0 r0 =>
    cases w0 with
    | int x =>
      simp only [im_br1] at h
      split at h
      · rename_i h0
        by_cases hq : x < 0
        · rw [if_pos (decide_eq_true hq)] at h
          cases h
          exact lv_if_lt hx hb hd (im_tgt_ok h0) (fun _ => g ls H locs hl hH hS) (fun q => absurd hq q)
        · rw [if_neg (fun q => hq (of_decide_eq_true q))] at h
          cases h
          exact lv_if_lt hx hb hd (im_tgt_ok h0) (fun q => absurd q hq) (fun _ => g ls H locs hl hH hS)
      · cases h
    | _ => first | cases h | (simp at h; done)
theorem im_s_icmp_lt (C : im_C p s m args meth c cc D cl cy nL WS (nm ow) ini) {off : Int} {F F' : im_F} (hd : decode cc F.1 = .ok (.if_icmp .lt off, 3)) (h : im_br2 (fun x y => decide (x < y)) off F = some F') (g : im_Go p l e R s m args below meth c Q D cl ty cy ad z H0 nL cells slots F') : im_Go p l e R s m args below meth c Q D cl ty cy ad z H0 nL cells slots F := by
  obtain ⟨hx, hb, hts, hown, hK, hin, hml⟩ := C
  intro ls H locs hl hH hS
  obtain ⟨pc, L, st, M⟩ := F
  cases st with
  | nil => cases h
  | cons w0 r0 =>
    cases w0 with
    | int y =>
      cases r0 with
      | nil => first | cases h | simp at h | (split at h <;> cases h)
      | cons w1 r1 =>
        cases w1 with
        | int x =>
          simp only [im_br2] at h
          split at h
          · rename_i h0
            by_cases hq : x < y
            · rw [if_pos (decide_eq_true hq)] at h
              cases h
              exact lv_icmp_lt hx hb hd (im_tgt_ok h0) (fun _ => g ls H locs hl hH hS) (fun q => absurd hq q)
            · rw [if_neg (fun q => hq (of_decide_eq_true q))] at h
              cases h
              exact lv_icmp_lt hx hb hd (im_tgt_ok h0) (fun q => absurd q hq) (fun _ => g ls H locs hl hH hS)
          · cases h
        | _ => first | cases h | (simp at h; done)
    | _ => first | cases h | (simp at h; done)
theorem im_s_if_ge (C : im_C p s m args meth c cc D cl cy nL WS (nm ow) ini) {off : Int} {F F' : im_F} (hd : decode cc F.1 = .ok (.ifCond .ge off, 3)) (h : im_br1 (fun x => decide (0 ≤ x)) off F = some F') (g : im_Go p l e R s m args below meth c Q D cl ty cy ad z H0 nL cells slots F') : im_Go p l e R s m args below meth c Q D cl ty cy ad z H0 nL cells slots F := by
  obtain ⟨hx, hb, hts, hown, hK, hin, hml⟩ := C
  intro ls H locs hl hH hS
  obtain ⟨pc, L, st, M⟩ := F
  cases st with
  | nil => cases h
  | cons w0 r0 =>
    cases w0 with
    | int x =>
      simp only [im_br1] at h
      split at h
      · rename_i h0
        by_cases hq : 0 ≤ x
        · rw [if_pos (decide_eq_true hq)] at h
          cases h
          exact lv_if_ge hx hb hd (im_tgt_ok h0) (fun _ => g ls H locs hl hH hS) (fun q => absurd hq q)
        · rw [if_neg (fun q => hq (of_decide_eq_true q))] at h
          cases h
          exact lv_if_ge hx hb hd (im_tgt_ok h0) (fun q => absurd q hq) (fun _ => g ls H locs hl hH hS)
      · cases h
    | _ => first | cases h | (simp at h; done)
theorem im_s_icmp_ge (C : im_C p s m args meth c cc D cl cy nL WS (nm ow) ini) {off : Int} {F F' : im_F} (hd : decode cc F.1 = .ok (.if_icmp .ge off, 3)) (h : im_br2 (fun x y => decide (y ≤ x)) off F = some F') (g : im_Go p l e R s m args below meth c Q D cl ty cy ad z H0 nL cells slots F') : im_Go p l e R s m args below meth c Q D cl ty cy ad z H0 nL cells slots F := by
  obtain ⟨hx, hb, hts, hown, hK, hin, hml⟩ := C
  intro ls H locs hl hH hS
  obtain ⟨pc, L, st, M⟩ := F
  cases st with
  | nil => cases h
  | cons w0 r0 =>
    cases w0 with
    | int y =>
      cases r0 with
      | nil => first | cases h | simp at h | (split at h <;> cases h)
      | cons w1 r1 =>
        cases w1 with
        | int x =>
          simp only [im_br2] at h
          split at h
          · rename_i h0
            by_cases hq : y ≤ x
            · rw [if_pos (decide_eq_true hq)] at h
              cases h
              exact lv_icmp_ge hx hb hd (im_tgt_ok h0) (fun _ => g ls H locs hl hH hS) (fun q => absurd hq q)
            · rw [if_neg (fun q => hq (of_decide_eq_true q))] at h
              cases h
              exact lv_icmp_ge hx hb hd (im_tgt_ok h0) (fun q => absurd q hq) (fun _ => g ls H locs hl hH hS)
          · cases h
        | _ => first | cases h | (simp at h; done)
    | _ => first | cases h | (simp at h; done)
theorem im_s_if_gt (C : im_C p s m args meth c cc D cl cy nL WS (nm ow) ini) {off : Int} {F F' : im_F} (hd : decode cc F.1 = .ok (.ifCond .gt off, 3)) (h : im_br1 (fun x => decide (0 < x)) off F = some F') (g : im_Go p l e R s m args below meth c Q D cl ty cy ad z H0 nL cells slots F') : im_Go p l e R s m args below meth c Q D cl ty cy ad z H0 nL cells slots F := by
  obtain ⟨hx, hb, hts, hown, hK, hin, hml⟩ := C
  intro ls H locs hl hH hS
  obtain ⟨pc, L, st, M⟩ := F
  cases st with
  | nil => cases h
  | cons w0 r0 =>
    cases w0 with
    | int x =>
      simp only [im_br1] at h
      split at h
      · rename_i h0
        by_cases hq : 0 < x
        · rw [if_pos (decide_eq_true hq)] at h
          cases h
          exact lv_if_gt hx hb hd (im_tgt_ok h0) (fun _ => g ls H locs hl hH hS) (fun q => absurd hq q)
        · rw [if_neg (fun q => hq (of_decide_eq_true q))] at h
          cases h
          exact lv_if_gt hx hb hd (im_tgt_ok h0) (fun q => absurd q hq) (fun _ => g ls H locs hl hH hS)
      · cases h
    | _ => first | cases h | (simp at h; done)
theorem im_s_icmp_gt (C : im_C p s m args meth c cc D cl cy nL WS (nm ow) ini) {off : Int} {F F' : im_F} (hd : decode cc F.1 = .ok (.if_icmp .gt off, 3)) (h : im_br2 (fun x y => decide (y < x)) off F = some F') (g : im_Go p l e R s m args below meth c Q D cl ty cy ad z H0 nL cells slots F') : im_Go p l e R s m args below meth c Q D cl ty cy ad z H0 nL cells slots F := by
  obtain ⟨hx, hb, hts, hown, hK, hin, hml⟩ := C
  intro ls H locs hl hH hS
  obtain ⟨pc, L, st, M⟩ := F
  cases st with
  | nil => cases h
  | cons w0 r0 =>
    cases w0 with
    | int y =>
      cases r0 with
      | nil => first | cases h | simp at h | (split at h <;> cases h)
      | cons w1 r1 =>
        cases w1 with
        | int x =>
          simp only [im_br2] at h
          split at h
          · rename_i h0
            by_cases hq : y < x
            · rw [if_pos (decide_eq_true hq)] at h
              cases h
              exact lv_icmp_gt hx hb hd (im_tgt_ok h0) (fun _ => g ls H locs hl hH hS) (fun q => absurd hq q)
            · rw [if_neg (fun q => hq (of_decide_eq_true q))] at h
              cases h
              exact lv_icmp_gt hx hb hd (im_tgt_ok h0) (fun q => absurd q hq) (fun _ => g ls H locs hl hH hS)
          · cases h
        | _ => first | cases h | (simp at h; done)
    | _ => first | cases h | (simp at h; done)
theorem im_s_if_le (C : im_C p s m args meth c cc D cl cy nL WS (nm ow) ini) {off : Int} {F F' : im_F} (hd : decode cc F.1 = .ok (.ifCond .le off, 3)) (h : im_br1 (fun x => decide (x ≤ 0)) off F = some F') (g : im_Go p l e R s m args below meth c Q D cl ty cy ad z H0 nL cells slots F') : im_Go p l e R s m args below meth c Q D cl ty cy ad z H0 nL cells slots F := by
  obtain ⟨hx, hb, hts, hown, hK, hin, hml⟩ := C
  intro ls H locs hl hH hS
  obtain ⟨pc, L, st, M⟩ := F
  cases st with
  | nil => cases h
  | cons w0 r0 =>
    cases w0 with
    | int x =>
      simp only [im_br1] at h
      split at h
      · rename_i h0
        by_cases hq : x ≤ 0
        · rw [if_pos (decide_eq_true hq)] at h
          cases h
          exact lv_if_le hx hb hd (im_tgt_ok h0) (fun _ => g ls H locs hl hH hS) (fun q => absurd hq q)
        · rw [if_neg (fun q => hq (of_decide_eq_true q))] at h
          cases h
          exact lv_if_le hx hb hd (im_tgt_ok h0) (fun q => absurd q hq) (fun _ => g ls H locs hl hH hS)
      · cases h
    | _ => first | cases h | (simp at h; done)
theorem im_s_icmp_le (C : im_C p s m args meth c cc D cl cy nL WS (nm ow) ini) {off : Int} {F F' : im_F} (hd : decode cc F.1 = .ok (.if_icmp .le off, 3)) (h : im_br2 (fun x y => decide (x ≤ y)) off F = some F') (g : im_Go p l e R s m args below meth c Q D cl ty cy ad z H0 nL cells slots F') : im_Go p l e R s m args below meth c Q D cl ty cy ad z H0 nL cells slots F := by
  obtain ⟨hx, hb, hts, hown, hK, hin, hml⟩ := C
  intro ls H locs hl hH hS
  obtain ⟨pc, L, st, M⟩ := F
  cases st with
  | nil => cases h
  | cons w0 r0 =>
    cases w0 with
    | int y =>
      cases r0 with
      | nil => first | cases h | simp at h | (split at h <;> cases h)
      | cons w1 r1 =>
        cases w1 with
        | int x =>
          simp only [im_br2] at h
          split at h
          · rename_i h0
            by_cases hq : x ≤ y
            · rw [if_pos (decide_eq_true hq)] at h
              cases h
              exact lv_icmp_le hx hb hd (im_tgt_ok h0) (fun _ => g ls H locs hl hH hS) (fun q => absurd hq q)
            · rw [if_neg (fun q => hq (of_decide_eq_true q))] at h
              cases h
              exact lv_icmp_le hx hb hd (im_tgt_ok h0) (fun q => absurd q hq) (fun _ => g ls H locs hl hH hS)
          · cases h
        | _ => first | cases h | (simp at h; done)
    | _ => first | cases h | (simp at h; done)
theorem im_s_tsw (C : im_C p s m args meth c cc D cl cy nL WS (nm ow) ini) {dflt lo hi : Int} {offs : Array Int} {len : Nat} {F F' : im_F} (hd : decode cc F.1 = .ok (.tableswitch dflt lo hi offs, len)) (h : im_tsw dflt lo hi offs F = some F') (g : im_Go p l e R s m args below meth c Q D cl ty cy ad z H0 nL cells slots F') : im_Go p l e R s m args below meth c Q D cl ty cy ad z H0 nL cells slots F := by
  obtain ⟨hx, hb, hts, hown, hK, hin, hml⟩ := C
  intro ls H locs hl hH hS
  obtain ⟨pc, L, st, M⟩ := F
  cases st with
  | nil => cases h
  | cons w0 r0 =>
    cases w0 with
    | int x =>
      simp only [im_tsw] at h
      split at h
      · rename_i hq
        obtain ⟨ht, rfl⟩ := im_jmp_some h
        exact lv_tableOut hx hb hd hq ht (g ls H locs hl hH hS)
      · rename_i hq
        cases ho : offs[(x.toInt - lo).toNat]? with
        | none => rw [ho] at h; cases h
        | some off =>
          rw [ho] at h
          obtain ⟨ht, rfl⟩ := im_jmp_some h
          exact lv_tableIn hx hb hd (fun q => hq (Or.inl q)) (fun q => hq (Or.inr q)) ho ht (g ls H locs hl hH hS)
    | _ => first | cases h | (simp at h; done)
theorem im_s_lsw (C : im_C p s m args meth c cc D cl cy nL WS (nm ow) ini) {dflt : Int} {ps : Array (Int × Int)} {len : Nat} {F F' : im_F} (hd : decode cc F.1 = .ok (.lookupswitch dflt ps, len)) (h : im_lsw dflt ps F = some F') (g : im_Go p l e R s m args below meth c Q D cl ty cy ad z H0 nL cells slots F') : im_Go p l e R s m args below meth c Q D cl ty cy ad z H0 nL cells slots F := by
  obtain ⟨hx, hb, hts, hown, hK, hin, hml⟩ := C
  intro ls H locs hl hH hS
  obtain ⟨pc, L, st, M⟩ := F
  cases st with
  | nil => cases h
  | cons w0 r0 =>
    cases w0 with
    | int x =>
      simp only [im_lsw] at h
      split at h
      · rename_i hq
        obtain ⟨ht, rfl⟩ := im_jmp_some h
        exact lv_lookup hx hb hd hq rfl ht (g ls H locs hl hH hS)
      · cases h
    | _ => first | cases h | (simp at h; done)
theorem im_s_dup (C : im_C p s m args meth c cc D cl cy nL WS (nm ow) ini)  {F F' : im_F} (hd : decode cc F.1 = .ok (.dup, 1)) (h : im_dup F = some F') (g : im_Go p l e R s m args below meth c Q D cl ty cy ad z H0 nL cells slots F') : im_Go p l e R s m args below meth c Q D cl ty cy ad z H0 nL cells slots F := by
  obtain ⟨hx, hb, hts, hown, hK, hin, hml⟩ := C
  intro ls H locs hl hH hS
  obtain ⟨pc, L, st, M⟩ := F
  cases st with
  | nil => cases h
  | cons v r =>
    simp only [im_dup] at h
    split at h
    · rename_i hc
      cases h
      exact lv_dup hx hb hd ((im_v_cat ad v).trans hc) (g ls H locs hl hH hS)
    · cases h
theorem im_s_pop (C : im_C p s m args meth c cc D cl cy nL WS (nm ow) ini)  {F F' : im_F} (hd : decode cc F.1 = .ok (.pop, 1)) (h : im_pop F = some F') (g : im_Go p l e R s m args below meth c Q D cl ty cy ad z H0 nL cells slots F') : im_Go p l e R s m args below meth c Q D cl ty cy ad z H0 nL cells slots F := by
  obtain ⟨hx, hb, hts, hown, hK, hin, hml⟩ := C
  intro ls H locs hl hH hS
  obtain ⟨pc, L, st, M⟩ := F
  cases st with
  | nil => cases h
  | cons v r =>
    simp only [im_pop] at h
    split at h
    · rename_i hc
      cases h
      exact lv_pop hx hb hd ((im_v_cat ad v).trans hc) (g ls H locs hl hH hS)
    · cases h
theorem im_s_dup2 (C : im_C p s m args meth c cc D cl cy nL WS (nm ow) ini)  {F F' : im_F} (hd : decode cc F.1 = .ok (.dup2, 1)) (h : im_dup2 F = some F') (g : im_Go p l e R s m args below meth c Q D cl ty cy ad z H0 nL cells slots F') : im_Go p l e R s m args below meth c Q D cl ty cy ad z H0 nL cells slots F := by
  obtain ⟨hx, hb, hts, hown, hK, hin, hml⟩ := C
  intro ls H locs hl hH hS
  obtain ⟨pc, L, st, M⟩ := F
  cases st with
  | nil => cases h
  | cons v r =>
    cases r with
    | nil => simp [im_dup2] at h
    | cons w r =>
      simp only [im_dup2] at h
      split at h
      · rename_i hc
        cases h
        exact lv_dup2_11 hx hb hd ((im_v_cat ad v).trans hc.1) ((im_v_cat ad w).trans hc.2) (g ls H locs hl hH hS)
      · split at h
        · rename_i hc
          cases h
          exact lv_dup2_2 hx hb hd ((im_v_cat ad v).trans hc) (g ls H locs hl hH hS)
        · cases h
theorem im_s_ldc (C : im_C p s m args meth c cc D cl cy nL WS (nm ow) ini) (HK : im_TK WS nm cT) {k : Nat} {F F' : im_F} (hd : decode cc F.1 = .ok (.ldc k, 2)) (h : (match cT ow k with | some (.int v) => some (im_push F 2 (.int v)) | _ => none) = some F') (g : im_Go p l e R s m args below meth c Q D cl ty cy ad z H0 nL cells slots F') : im_Go p l e R s m args below meth c Q D cl ty cy ad z H0 nL cells slots F := by
  obtain ⟨hx, hb, hts, hown, hK, hin, hml⟩ := C
  intro ls H locs hl hH hS
  split at h
  · rename_i v hv
    cases h
    exact lv_ldc hx hb hown (hts _ (HK.1 ow k v hv)) hd (g ls H locs hl hH hS)
  · cases h
theorem im_s_ldc_w (C : im_C p s m args meth c cc D cl cy nL WS (nm ow) ini) (HK : im_TK WS nm cT) {k : Nat} {F F' : im_F} (hd : decode cc F.1 = .ok (.ldc_w k, 3)) (h : (match cT ow k with | some (.int v) => some (im_push F 3 (.int v)) | _ => none) = some F') (g : im_Go p l e R s m args below meth c Q D cl ty cy ad z H0 nL cells slots F') : im_Go p l e R s m args below meth c Q D cl ty cy ad z H0 nL cells slots F := by
  obtain ⟨hx, hb, hts, hown, hK, hin, hml⟩ := C
  intro ls H locs hl hH hS
  split at h
  · rename_i v hv
    cases h
    exact lv_ldcw hx hb hown (hts _ (HK.1 ow k v hv)) hd (g ls H locs hl hH hS)
  · cases h
theorem im_s_ldc2_w (C : im_C p s m args meth c cc D cl cy nL WS (nm ow) ini) (HK : im_TK WS nm cT) {k : Nat} {F F' : im_F} (hd : decode cc F.1 = .ok (.ldc2_w k, 3)) (h : (match cT ow k with | some (.long v) => some (im_push F 3 (.long v)) | _ => none) = some F') (g : im_Go p l e R s m args below meth c Q D cl ty cy ad z H0 nL cells slots F') : im_Go p l e R s m args below meth c Q D cl ty cy ad z H0 nL cells slots F := by
  obtain ⟨hx, hb, hts, hown, hK, hin, hml⟩ := C
  intro ls H locs hl hH hS
  split at h
  · rename_i v hv
    cases h
    exact lv_ldc2 hx hb hown (hts _ (HK.2 ow k v hv)) hd (g ls H locs hl hH hS)
  · cases h
theorem im_rf (ad : Nat → Nat) (x : Option Nat) : im_v ad (va_rf x) = va_rf (x.map ad) := by cases x <;> rfl
theorem im_s_getfield (C : im_C p s m args meth c cc D cl cy nL WS (nm ow) ini) (HC : im_TC cl ty WS) (HF : im_TF cl WS nm fT) {k : Nat} {F F' : im_F} (hd : decode cc F.1 = .ok (.getfield k, 3)) (h : (match fT ow k with | some (ci, f) => im_getf ty ci f F | none => none) = some F') (g : im_Go p l e R s m args below meth c Q D cl ty cy ad z H0 nL cells slots F') : im_Go p l e R s m args below meth c Q D cl ty cy ad z H0 nL cells slots F := by
  obtain ⟨hx, hb, hts, hown, hK, hin, hml⟩ := C
  intro ls H locs hl hH hS
  cases hf : fT ow k with
  | none => rw [hf] at h; cases h
  | some q =>
    obtain ⟨ci, f⟩ := q
    rw [hf] at h
    simp only at h
    obtain ⟨h32, ⟨C, T, N⟩, hq, hk, hw⟩ := HF ow k ci f hf
    obtain ⟨hin1, hin2, hin3⟩ := HC ci _ hq
    obtain ⟨pc, L, st, M⟩ := F
    cases st with
    | nil => cases h
    | cons w r =>
      cases w with
      | ref a =>
        simp only [im_getf] at h
        split at h
        · rename_i hc
          have hrow : ∀ v : Value, im_fv ty ad M a ci f = im_v ad v → im_Go p l e R s m args below meth c Q D cl ty cy ad z H0 nL cells slots (pc + 3, L, v :: r, M) → W p l e R s m args below meth c H locs cells slots Q (F0 m pc ls ((Value.ref a :: r).map (im_v ad))) := by
            intro v hv gv
            exact va_get hx hb hts hin1 hown hK hH.1 a (by rw [im_ws_at hc.1, im_ent_o hc.2 h32]) hq f hk (hts _ hw) (fun _ h9 => h9) (by rw [im_fs_at hq hk, hv]) hd (gv ls H locs hl hH hS)
          split at h
          · rename_i ht; cases h; exact hrow (.long (im_l M a f)) (by unfold im_fv; rw [ht]; rfl) g
          · rename_i ht; cases h; exact hrow (va_rf (im_r M a f)) (by unfold im_fv; rw [ht, im_rf]) g
          · rename_i ht; cases h; exact hrow (va_rf (im_r M a f)) (by unfold im_fv; rw [ht, im_rf]) g
          · rename_i ht; cases h; exact hrow (.int (im_i M a f)) (by unfold im_fv; rw [ht]; rfl) g
          · rename_i ht; cases h; exact hrow (.int (im_i M a f)) (by unfold im_fv; rw [ht]; rfl) g
          · cases h
        · cases h
      | _ => first | cases h | (simp [im_getf] at h; done)
end IMS
