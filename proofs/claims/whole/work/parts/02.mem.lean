/-! THE PURE MACHINE: its memory, and how a heap holds it. A cell has a number; the cell i lies at the address ad i. -/
/-- how many cells; whether nothing else was made since the start; kind and length of a cell; ints, longs and references that it holds -/
abbrev im_M : Type := Nat × Bool × (Nat → Nat × Nat) × (Nat → Nat → Int32) × (Nat → Nat → Int64) × (Nat → Nat → Option Nat)
def im_n (M : im_M) : Nat := M.1
def im_x (M : im_M) : Bool := M.2.1
def im_k (M : im_M) : Nat → Nat × Nat := M.2.2.1
def im_i (M : im_M) : Nat → Nat → Int32 := M.2.2.2.1
def im_l (M : im_M) : Nat → Nat → Int64 := M.2.2.2.2.1
def im_r (M : im_M) : Nat → Nat → Option Nat := M.2.2.2.2.2
def im_u2 {α : Type} (f : Nat → Nat → α) (a k : Nat) (v : α) : Nat → Nat → α := fun b j => if b = a then (if j = k then v else f b j) else f b j
def im_setI (M : im_M) (a k : Nat) (v : Int32) : im_M := (im_n M, im_x M, im_k M, im_u2 (im_i M) a k v, im_l M, im_r M)
def im_setL (M : im_M) (a k : Nat) (v : Int64) : im_M := (im_n M, im_x M, im_k M, im_i M, im_u2 (im_l M) a k v, im_r M)
def im_setR (M : im_M) (a k : Nat) (v : Option Nat) : im_M := (im_n M, im_x M, im_k M, im_i M, im_l M, im_u2 (im_r M) a k v)
/-- a value as the heap has it -/
def im_v (ad : Nat → Nat) (v : Value) : Value := match v with
  | .ref i => .ref (ad i)
  | w => w
def im_fv (ty : Nat → Nat → FieldType) (ad : Nat → Nat) (M : im_M) (i c k : Nat) : Value := match ty c k with
  | .long => .long (im_l M i k)
  | .object _ => va_rf ((im_r M i k).map ad)
  | .array _ => va_rf ((im_r M i k).map ad)
  | _ => .int (im_i M i k)
def im_nf (cl : List vw_C) (c : Nat) : Nat := match cl[c]? with
  | some q => q.2.2
  | none => 0
def im_fs (cl : List vw_C) (ty : Nat → Nat → FieldType) (ad : Nat → Nat) (M : im_M) (i c : Nat) : List Value := (List.range (im_nf cl c)).map (im_fv ty ad M i c)
def im_ent (cl : List vw_C) (ty : Nat → Nat → FieldType) (cy : Nat → ClassId) (ad : Nat → Nat) (M : im_M) (i : Nat) : va_E :=
  if (im_k M i).1 < 32 then .inr ((im_k M i).1, im_fs cl ty ad M i (im_k M i).1)
  else if (im_k M i).1 = 34 then .inl (cy 34, (im_k M i).2, .inr (.inl (im_l M i)))
  else .inl (cy (im_k M i).1, (im_k M i).2, .inl (im_i M i))
def im_ws (cl : List vw_C) (ty : Nat → Nat → FieldType) (cy : Nat → ClassId) (ad : Nat → Nat) (M : im_M) : va_W := (List.range (im_n M)).map (fun i => (ad i, im_ent cl ty cy ad M i))
def im_tys (cy : Nat → ClassId) : List (ClassId × FieldType) := [(cy 32, .byte), (cy 33, .int), (cy 34, .long), (cy 35, .short), (cy 36, .boolean)]
theorem im_ws_at {cl : List vw_C} {ty : Nat → Nat → FieldType} {cy : Nat → ClassId} {ad : Nat → Nat} {M : im_M} {i : Nat} (h : i < im_n M) : (im_ws cl ty cy ad M)[i]? = some (ad i, im_ent cl ty cy ad M i) := by
  simp [im_ws, List.getElem?_range h]
theorem im_ent_o {cl : List vw_C} {ty : Nat → Nat → FieldType} {cy : Nat → ClassId} {ad : Nat → Nat} {M : im_M} {i c : Nat} (h : (im_k M i).1 = c) (hc : c < 32) : im_ent cl ty cy ad M i = .inr (c, im_fs cl ty ad M i c) := by
  subst h
  simp [im_ent, hc]
theorem im_ent_a {cl : List vw_C} {ty : Nat → Nat → FieldType} {cy : Nat → ClassId} {ad : Nat → Nat} {M : im_M} {i c : Nat} (h : (im_k M i).1 = c) (hc : ¬ c < 32) (h4 : c ≠ 34) : im_ent cl ty cy ad M i = .inl (cy c, (im_k M i).2, .inl (im_i M i)) := by
  subst h
  simp [im_ent, hc, h4]
theorem im_ent_l {cl : List vw_C} {ty : Nat → Nat → FieldType} {cy : Nat → ClassId} {ad : Nat → Nat} {M : im_M} {i : Nat} (h : (im_k M i).1 = 34) : im_ent cl ty cy ad M i = .inl (cy 34, (im_k M i).2, .inr (.inl (im_l M i))) := by
  simp [im_ent, h]
theorem im_fs_at {cl : List vw_C} {ty : Nat → Nat → FieldType} {ad : Nat → Nat} {M : im_M} {i c k N : Nat} {C : String} {T : u_T} (hc : cl[c]? = some (C, T, N)) (hk : k < N) : (im_fs cl ty ad M i c)[k]? = some (im_fv ty ad M i c k) := by
  have h : im_nf cl c = N := by simp [im_nf, hc]
  simp [im_fs, h, List.getElem?_range hk]
theorem im_fs_len {cl : List vw_C} {ty : Nat → Nat → FieldType} {ad : Nat → Nat} {M : im_M} {i c N : Nat} {C : String} {T : u_T} (hc : cl[c]? = some (C, T, N)) : (im_fs cl ty ad M i c).length = N := by
  have h : im_nf cl c = N := by simp [im_nf, hc]
  simp [im_fs, h]
/-- a list of cells in which one has changed -/
theorem im_ws_set {cl : List vw_C} {ty : Nat → Nat → FieldType} {cy : Nat → ClassId} {ad : Nat → Nat} {M M' : im_M} {a : Nat} (hn : im_n M' = im_n M) (h : ∀ i, i ≠ a → im_ent cl ty cy ad M' i = im_ent cl ty cy ad M i) :
    (im_ws cl ty cy ad M).set a (ad a, im_ent cl ty cy ad M' a) = im_ws cl ty cy ad M' := by
  apply List.ext_getElem?
  intro j
  rw [List.getElem?_set]
  simp only [im_ws, hn, List.length_map, List.length_range, List.getElem?_map]
  by_cases hj : a = j
  · subst hj
    by_cases hl : a < im_n M
    · simp [hl, List.getElem?_range hl]
    · simp [hl]
  · simp only [hj, if_false]
    by_cases hl : j < im_n M
    · simp [List.getElem?_range hl, h j (fun q => hj q.symm)]
    · simp [hl]
theorem im_u2_at {α : Type} {f : Nat → Nat → α} {a k : Nat} {v : α} : im_u2 f a k v a k = v := by simp [im_u2]
theorem im_u2_ne {α : Type} {f : Nat → Nat → α} {a k b j : Nat} {v : α} (h : b ≠ a) : im_u2 f a k v b j = f b j := by simp [im_u2, h]
theorem im_u2_nk {α : Type} {f : Nat → Nat → α} {a k b j : Nat} {v : α} (h : j ≠ k) : im_u2 f a k v b j = f b j := by simp [im_u2, h]
/-- an int field is set -/
theorem im_fs_setI {cl : List vw_C} {ty : Nat → Nat → FieldType} {ad : Nat → Nat} {M : im_M} {a c k : Nat} {x : Int32} (ht : im_fv ty ad (im_setI M a k x) a c k = .int x) : (im_fs cl ty ad M a c).set k (.int x) = im_fs cl ty ad (im_setI M a k x) a c := by
  apply List.ext_getElem?
  intro j
  rw [List.getElem?_set]
  simp only [im_fs, List.length_map, List.length_range, List.getElem?_map]
  by_cases hj : k = j
  · subst hj
    by_cases hl : k < im_nf cl c
    · simp [hl, List.getElem?_range hl, ht]
    · simp [hl]
  · simp only [hj, if_false]
    by_cases hl : j < im_nf cl c
    · simp only [List.getElem?_range hl, Option.map_some]
      have hj' : j ≠ k := fun q => hj q.symm
      simp [im_fv, im_setI, im_i, im_l, im_r, im_u2, hj']
    · simp [hl]
theorem im_fs_setL {cl : List vw_C} {ty : Nat → Nat → FieldType} {ad : Nat → Nat} {M : im_M} {a c k : Nat} {x : Int64} (ht : im_fv ty ad (im_setL M a k x) a c k = .long x) : (im_fs cl ty ad M a c).set k (.long x) = im_fs cl ty ad (im_setL M a k x) a c := by
  apply List.ext_getElem?
  intro j
  rw [List.getElem?_set]
  simp only [im_fs, List.length_map, List.length_range, List.getElem?_map]
  by_cases hj : k = j
  · subst hj
    by_cases hl : k < im_nf cl c
    · simp [hl, List.getElem?_range hl, ht]
    · simp [hl]
  · simp only [hj, if_false]
    by_cases hl : j < im_nf cl c
    · simp only [List.getElem?_range hl, Option.map_some]
      have hj' : j ≠ k := fun q => hj q.symm
      simp [im_fv, im_setL, im_i, im_l, im_r, im_u2, hj']
    · simp [hl]
theorem im_fs_setR {cl : List vw_C} {ty : Nat → Nat → FieldType} {ad : Nat → Nat} {M : im_M} {a c k : Nat} {x : Option Nat} (ht : im_fv ty ad (im_setR M a k x) a c k = va_rf (x.map ad)) : (im_fs cl ty ad M a c).set k (va_rf (x.map ad)) = im_fs cl ty ad (im_setR M a k x) a c := by
  apply List.ext_getElem?
  intro j
  rw [List.getElem?_set]
  simp only [im_fs, List.length_map, List.length_range, List.getElem?_map]
  by_cases hj : k = j
  · subst hj
    by_cases hl : k < im_nf cl c
    · simp [hl, List.getElem?_range hl, ht]
    · simp [hl]
  · simp only [hj, if_false]
    by_cases hl : j < im_nf cl c
    · simp only [List.getElem?_range hl, Option.map_some]
      have hj' : j ≠ k := fun q => hj q.symm
      simp [im_fv, im_setR, im_i, im_l, im_r, im_u2, hj']
    · simp [hl]
theorem im_ent_neI {cl : List vw_C} {ty : Nat → Nat → FieldType} {cy : Nat → ClassId} {ad : Nat → Nat} {M : im_M} {a k i : Nat} {x : Int32} (h : i ≠ a) : im_ent cl ty cy ad (im_setI M a k x) i = im_ent cl ty cy ad M i := by
  have e : im_i (im_setI M a k x) i = im_i M i := by funext j; simp [im_setI, im_i, im_u2, h]
  have e2 : ∀ c, im_fs cl ty ad (im_setI M a k x) i c = im_fs cl ty ad M i c := by
    intro c
    simp only [im_fs]
    congr 1
    funext j
    unfold im_fv
    rw [e]
    rfl
  simp only [im_ent, e, e2]
  rfl
theorem im_ent_neL {cl : List vw_C} {ty : Nat → Nat → FieldType} {cy : Nat → ClassId} {ad : Nat → Nat} {M : im_M} {a k i : Nat} {x : Int64} (h : i ≠ a) : im_ent cl ty cy ad (im_setL M a k x) i = im_ent cl ty cy ad M i := by
  have e : im_l (im_setL M a k x) i = im_l M i := by funext j; simp [im_setL, im_l, im_u2, h]
  have e2 : ∀ c, im_fs cl ty ad (im_setL M a k x) i c = im_fs cl ty ad M i c := by
    intro c
    simp only [im_fs]
    congr 1
    funext j
    unfold im_fv
    rw [e]
    rfl
  simp only [im_ent, e, e2]
  rfl
theorem im_ent_neR {cl : List vw_C} {ty : Nat → Nat → FieldType} {cy : Nat → ClassId} {ad : Nat → Nat} {M : im_M} {a k i : Nat} {x : Option Nat} (h : i ≠ a) : im_ent cl ty cy ad (im_setR M a k x) i = im_ent cl ty cy ad M i := by
  have e : im_r (im_setR M a k x) i = im_r M i := by funext j; simp [im_setR, im_r, im_u2, h]
  have e2 : ∀ c, im_fs cl ty ad (im_setR M a k x) i c = im_fs cl ty ad M i c := by
    intro c
    simp only [im_fs]
    congr 1
    funext j
    unfold im_fv
    rw [e]
    rfl
  simp only [im_ent, e2]
  rfl
