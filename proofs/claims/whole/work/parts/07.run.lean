/-! MAKING CELLS; CALLS; THE RUN -/
/-- name, code, locals, answer's type, parameters, kind (0 virtual, 1 static, 2 a maker, 3 a nest mate's maker), the number of its class -/
abbrev im_J : Type := MethodName × ByteArray × Nat × Option FieldType × Nat × Nat × Nat
/-- the tables: classes and their fields' types, the words; links of fields, constants, statics; what lies outside; links of arraycopy, of Object's maker, of classes to make; methods, links of methods, hosts -/
abbrev im_G : Type := List vw_C × (Nat → Nat → FieldType) × List Cond × (Nat → Nat → Option (Nat × Nat)) × (Nat → Nat → Option Value) × (Nat → Nat → Option Value) × (Nat → Nat × Nat) × (Nat → Nat → Int32) × (Nat → Nat → Option Nat) × (Nat → Nat → Option Bool) × (Nat → Nat → Bool) × (Nat → Nat → Bool) × (Nat → Nat → Option Nat) × (Nat → Option im_J) × (Nat → Nat → Option Nat) × (Nat → Nat → Option String) × (Nat → String)
def ig_cl (G : im_G) : List vw_C := G.1
def ig_ty (G : im_G) : Nat → Nat → FieldType := G.2.1
def ig_WS (G : im_G) : List Cond := G.2.2.1
def ig_fT (G : im_G) : Nat → Nat → Option (Nat × Nat) := G.2.2.2.1
def ig_cT (G : im_G) : Nat → Nat → Option Value := G.2.2.2.2.1
def ig_gT (G : im_G) : Nat → Nat → Option Value := G.2.2.2.2.2.1
def ig_xk (G : im_G) : Nat → Nat × Nat := G.2.2.2.2.2.2.1
def ig_xi (G : im_G) : Nat → Nat → Int32 := G.2.2.2.2.2.2.2.1
def ig_sT (G : im_G) : Nat → Nat → Option Nat := G.2.2.2.2.2.2.2.2.1
def ig_vT (G : im_G) : Nat → Nat → Option Bool := G.2.2.2.2.2.2.2.2.2.1
def ig_aT (G : im_G) : Nat → Nat → Bool := G.2.2.2.2.2.2.2.2.2.2.1
def ig_oT (G : im_G) : Nat → Nat → Bool := G.2.2.2.2.2.2.2.2.2.2.2.1
def ig_nT (G : im_G) : Nat → Nat → Option Nat := G.2.2.2.2.2.2.2.2.2.2.2.2.1
def ig_T (G : im_G) : Nat → Option im_J := G.2.2.2.2.2.2.2.2.2.2.2.2.2.1
def ig_cal (G : im_G) : Nat → Nat → Option Nat := G.2.2.2.2.2.2.2.2.2.2.2.2.2.2.1
def ig_ho (G : im_G) : Nat → Nat → Option String := G.2.2.2.2.2.2.2.2.2.2.2.2.2.2.2.1
def ig_nm (G : im_G) : Nat → String := G.2.2.2.2.2.2.2.2.2.2.2.2.2.2.2.2
/-- what a cell takes of the room -/
def im_size (cl : List vw_C) (k : Nat × Nat) : Nat := if k.1 < 32 then im_nf cl k.1 else k.2
def im_tot (cl : List vw_C) (K : Nat → Nat × Nat) : Nat → Nat
  | 0 => 0
  | n + 1 => im_tot cl K n + im_size cl (K n)
def im_mk (M : im_M) (k : Nat × Nat) : im_M := (im_n M + 1, im_x M, va_up (im_k M) (im_n M) k, va_up (im_i M) (im_n M) (fun _ => 0), va_up (im_l M) (im_n M) (fun _ => 0), va_up (im_r M) (im_n M) (fun _ => none))
def im_dv (t : FieldType) : Value := match t with
  | .long => .long 0
  | .object _ => .null
  | .array _ => .null
  | _ => .int 0
def im_new (nT : Nat → Nat → Option Nat) (ow : Nat) (k : Nat) (F : im_F) : Option im_F := match nT ow k with
  | some ci => if im_x F.2.2.2 = true ∧ im_n F.2.2.2 < 1000000 ∧ ci < 32 then some (F.1 + 3, F.2.1, .ref (im_n F.2.2.2) :: F.2.2.1, im_mk F.2.2.2 (ci, 0)) else none
  | none => none
def im_akind (t : ArrayType) : Nat := match t with
  | .byte => 32
  | .int => 33
  | .long => 34
  | .short => 35
  | .boolean => 36
  | _ => 0
def im_newa (t : ArrayType) (F : im_F) : Option im_F := match F with
  | (pc, L, .int n :: r, M) => if im_x M = true ∧ im_n M < 1000000 ∧ 32 ≤ im_akind t ∧ ¬ n < 0 ∧ n.toNatClampNeg * 8 ≤ 536870912 then some (pc + 2, L, .ref (im_n M) :: r, im_mk M (im_akind t, n.toNatClampNeg)) else none
  | _ => none
def im_oinit (F : im_F) : Option im_F := match F with
  | (pc, L, .ref _ :: r, M) => if (r.map fun v => v.category).sum ≤ 8 then some (pc + 3, L, r, M) else none
  | _ => none
/-- a call: the callee, what it gets, what stays on the stack -/
def im_prep (G : im_G) (ow k kd : Nat) (F : im_F) : Option (im_J × List Value × List Value) := match ig_cal G ow k with
  | none => none
  | some j => match ig_T G j with
    | none => none
    | some d => if d.2.2.2.2.2.1 = kd ∧ d.2.2.1 ≤ 45 ∧ d.2.2.2.2.1 ≤ F.2.2.1.length then
        (if kd = 1 then
          (if ((F.2.2.1.drop d.2.2.2.2.1).map fun v => v.category).sum ≤ 8 ∧ (lg_sl (F.2.2.1.take d.2.2.2.2.1).reverse).length ≤ d.2.2.1 then some (d, (F.2.2.1.take d.2.2.2.2.1).reverse, F.2.2.1.drop d.2.2.2.2.1) else none)
        else match F.2.2.1.drop d.2.2.2.2.1 with
          | .ref b :: rest => if (rest.map fun v => v.category).sum ≤ 8 ∧ (lg_sl (.ref b :: (F.2.2.1.take d.2.2.2.2.1).reverse)).length ≤ d.2.2.1 ∧ (kd = 0 → (b < im_n F.2.2.2 ∧ (im_k F.2.2.2 b).1 < 32 ∧ ((ig_cl G)[(im_k F.2.2.2 b).1]?).map (fun q => q.1) = some d.1.cls) ∨ ((ig_xk G b).1 = 50 ∧ d.1.cls = "java/lang/String")) then some (d, .ref b :: (F.2.2.1.take d.2.2.2.2.1).reverse, rest) else none
          | _ => none)
      else none
/-- a method's end -/
def im_ret (ret : Option FieldType) (i : Instr) (F : im_F) : Option (Option Value × im_M) := match i with
  | .return_ => if ret = none ∧ F.2.2.1 = [] then some (none, F.2.2.2) else none
  | .ireturn => match ret, F.2.2.1 with
    | some t, [.int v] => if narrow t (.int v) = .int v then some (some (.int v), F.2.2.2) else none
    | _, _ => none
  | .lreturn => match ret, F.2.2.1 with
    | some .long, [.long v] => some (some (.long v), F.2.2.2)
    | _, _ => none
  | .areturn => match ret, F.2.2.1 with
    | some (.object _), [.ref a] => some (some (.ref a), F.2.2.2)
    | some (.array _), [.ref a] => some (some (.ref a), F.2.2.2)
    | _, _ => none
  | _ => none
def im_isret (i : Instr) : Bool := match i with
  | .return_ => true
  | .ireturn => true
  | .lreturn => true
  | .areturn => true
  | _ => false
/-- a step that isn't a call's or an end -/
def im_one (G : im_G) (d : im_J) (i : Instr) (len : Nat) (F : im_F) : Option im_F := match i with
  | .new k => im_ok 3 len (im_new (ig_nT G) d.2.2.2.2.2.2 k F)
  | .newarray t => im_ok 2 len (im_newa t F)
  | _ => match im_step (ig_cl G) (ig_ty G) (ig_fT G) (ig_cT G) (ig_nm G d.2.2.2.2.2.2) d.2.2.2.2.2.2 (decide (2 ≤ d.2.2.2.2.2.1)) d.2.2.1 i len F with
    | some F' => some F'
    | none => im_stepX (ig_gT G) (ig_xk G) (ig_xi G) (ig_sT G) (ig_vT G) d.2.2.2.2.2.2 i len F
/-- the call that an instruction is: its link and kind -/
def im_iscall (G : im_G) (d : im_J) (i : Instr) : Option (Nat × Nat) := match i with
  | .invokevirtual k => some (k, 0)
  | .invokestatic k => if ig_aT G d.2.2.2.2.2.2 k = true then none else some (k, 1)
  | .invokespecial k => if ig_oT G d.2.2.2.2.2.2 k = true then none else match ig_ho G d.2.2.2.2.2.2 k with
    | some _ => some (k, 3)
    | none => some (k, 2)
  | _ => none
def im_nat (G : im_G) (d : im_J) (i : Instr) (len : Nat) (F : im_F) : Option im_F := match i with
  | .invokestatic k => if ig_aT G d.2.2.2.2.2.2 k = true then im_ok 3 len (im_acopy F) else none
  | .invokespecial k => if ig_oT G d.2.2.2.2.2.2 k = true then im_ok 3 len (im_oinit F) else none
  | _ => im_one G d i len F
/-- THE RUN: fuel, depth, method, frame -/
def im_run (G : im_G) : Nat → Nat → im_J → im_F → Option (Option Value × im_M)
  | 0, _, _, _ => none
  | _ + 1, 0, _, _ => none
  | n + 1, dep + 1, d, F => match decode d.2.1 F.1 with
    | .ok (i, len) => if im_isret i = true then (if len = 1 then im_ret d.2.2.2.1 i F else none) else
        match im_iscall G d i with
        | some (k, kd) => if len = 3 then (match im_prep G d.2.2.2.2.2.2 k kd F with
          | some (d', vs, rest) => (match im_run G n dep d' (0, lv_args 0 vs, [], F.2.2.2) with
              | some (v, M') => im_run G n (dep + 1) d (F.1 + 3, F.2.1, v.toList ++ rest, M')
              | none => none)
          | none => none) else none
        | none => match im_nat G d i len F with
          | some F' => im_run G n (dep + 1) d F'
          | none => none
    | _ => none

