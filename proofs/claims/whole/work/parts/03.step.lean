/-! THE PURE MACHINE: frames, simple steps, and that the machine does them -/
abbrev im_F : Type := Nat × List (Nat × Value) × List Value × im_M
def im_lk (L : List (Nat × Value)) (i : Nat) : Option Value := match L with
  | [] => none
  | q :: r => if q.1 = i then some q.2 else im_lk r i
def im_st1 (L : List (Nat × Value)) (i : Nat) (v : Value) : List (Nat × Value) := (i, v) :: L.filter (fun q => !(q.1 == i) && !(q.1 + 1 == i && q.2.category == 2))
def im_st2 (L : List (Nat × Value)) (i : Nat) (v : Value) : List (Nat × Value) := (i, v) :: L.filter (fun q => !(q.1 == i) && (!(q.1 == i + 1) && !(q.1 + 1 == i && q.2.category == 2)))
def im_L (ad : Nat → Nat) (L : List (Nat × Value)) : List (Nat × Value) := L.map (fun q => (q.1, im_v ad q.2))
theorem im_v_cat (ad : Nat → Nat) (v : Value) : (im_v ad v).category = v.category := by cases v <;> rfl
theorem im_lk_at {ad : Nat → Nat} {L : List (Nat × Value)} {i : Nat} {v : Value} (h : im_lk L i = some v) : ∃ k : Nat, (im_L ad L)[k]? = some (i, im_v ad v) := by
  induction L with
  | nil => simp [im_lk] at h
  | cons q r ih =>
    unfold im_lk at h
    by_cases hq : q.1 = i
    · rw [if_pos hq] at h
      cases h
      exact ⟨0, by simp [im_L, hq]⟩
    · rw [if_neg hq] at h
      obtain ⟨k, hk⟩ := ih h
      exact ⟨k + 1, by simpa [im_L] using hk⟩
theorem im_lk_ls {ad : Nat → Nat} {ls : Array Slot} {nL : Nat} {L : List (Nat × Value)} {i : Nat} {v : Value} (hl : lv_has ls nL (im_L ad L)) (h : im_lk L i = some v) : ls[i]? = some (.val (im_v ad v)) := by
  obtain ⟨k, hk⟩ := im_lk_at (ad := ad) h
  exact lv_at hl k hk
theorem im_L_st1 {ad : Nat → Nat} {L : List (Nat × Value)} {i : Nat} {v w : Value} (hw : im_v ad v = w) : (i, w) :: (im_L ad L).filter (fun q => !(q.1 == i) && !(q.1 + 1 == i && q.2.category == 2)) = im_L ad (im_st1 L i v) := by
  subst hw
  simp only [im_L, im_st1, List.map_cons, List.filter_map]
  congr 3
  funext q
  simp [im_v_cat]
theorem im_L_st2 {ad : Nat → Nat} {L : List (Nat × Value)} {i : Nat} {v w : Value} (hw : im_v ad v = w) : (i, w) :: (im_L ad L).filter (fun q => !(q.1 == i) && (!(q.1 == i + 1) && !(q.1 + 1 == i && q.2.category == 2))) = im_L ad (im_st2 L i v) := by
  subst hw
  simp only [im_L, im_st2, List.map_cons, List.filter_map]
  congr 3
  funext q
  simp [im_v_cat]
/-- where a jump goes -/
def im_tgt (pc : Nat) (off : Int) : Nat := ((pc : Int) + off).toNat
theorem im_tgt_ok {pc : Nat} {off : Int} (h : 0 ≤ (pc : Int) + off) : (pc : Int) + off = (im_tgt pc off : Int) := (Int.toNat_of_nonneg h).symm
def im_jmp (pc : Nat) (off : Int) (F : List (Nat × Value) × List Value × im_M) : Option im_F := if 0 ≤ (pc : Int) + off then some (im_tgt pc off, F) else none
def im_push (F : im_F) (d : Nat) (v : Value) : im_F := (F.1 + d, F.2.1, v :: F.2.2.1, F.2.2.2)
def im_b32 (f : Int32 → Int32 → Int32) (F : im_F) : Option im_F := match F with
  | (pc, L, .int y :: .int x :: r, M) => some (pc + 1, L, .int (f x y) :: r, M)
  | _ => none
def im_d32 (f : Int32 → Int32 → Int32) (F : im_F) : Option im_F := match F with
  | (pc, L, .int y :: .int x :: r, M) => if y = 0 then none else some (pc + 1, L, .int (f x y) :: r, M)
  | _ => none
def im_b64 (f : Int64 → Int64 → Int64) (F : im_F) : Option im_F := match F with
  | (pc, L, .long y :: .long x :: r, M) => some (pc + 1, L, .long (f x y) :: r, M)
  | _ => none
def im_d64 (f : Int64 → Int64 → Int64) (F : im_F) : Option im_F := match F with
  | (pc, L, .long y :: .long x :: r, M) => if y = 0 then none else some (pc + 1, L, .long (f x y) :: r, M)
  | _ => none
def im_s64 (f : Int64 → Int32 → Int64) (F : im_F) : Option im_F := match F with
  | (pc, L, .int y :: .long x :: r, M) => some (pc + 1, L, .long (f x y) :: r, M)
  | _ => none
def im_c32 (f : Int32 → Int32) (F : im_F) : Option im_F := match F with
  | (pc, L, .int x :: r, M) => some (pc + 1, L, .int (f x) :: r, M)
  | _ => none
def im_cl (F : im_F) : Option im_F := match F with
  | (pc, L, .int x :: r, M) => some (pc + 1, L, .long x.toInt64 :: r, M)
  | _ => none
def im_ci (F : im_F) : Option im_F := match F with
  | (pc, L, .long x :: r, M) => some (pc + 1, L, .int x.toInt32 :: r, M)
  | _ => none
def im_n64 (F : im_F) : Option im_F := match F with
  | (pc, L, .long x :: r, M) => some (pc + 1, L, .long (-x) :: r, M)
  | _ => none
def im_lcmp (F : im_F) : Option im_F := match F with
  | (pc, L, .long y :: .long x :: r, M) => some (pc + 1, L, .int (lg_cmp x y) :: r, M)
  | _ => none
def im_load (i d : Nat) (k : Nat) (F : im_F) : Option im_F := match im_lk F.2.1 i with
  | some v => if k = (match v with | .int _ => 0 | .long _ => 1 | .ref _ => 2 | _ => 3) then some (im_push F d v) else none
  | none => none
def im_store (nL i d : Nat) (k : Nat) (F : im_F) : Option im_F := match F with
  | (pc, L, v :: r, M) => match v with
    | .int _ => if k = 0 ∧ i < nL then some (pc + d, im_st1 L i v, r, M) else none
    | .long _ => if k = 1 ∧ i + 1 < nL then some (pc + d, im_st2 L i v, r, M) else none
    | .ref _ => if k = 2 ∧ i < nL then some (pc + d, im_st1 L i v, r, M) else none
    | _ => none
  | _ => none
def im_iinc (nL i : Nat) (n : Int) (F : im_F) : Option im_F := match im_lk F.2.1 i with
  | some (.int x) => if i < nL then some (F.1 + 3, im_st1 F.2.1 i (.int (x + Int32.ofInt n)), F.2.2) else none
  | _ => none
def im_br1 (q : Int32 → Bool) (off : Int) (F : im_F) : Option im_F := match F with
  | (pc, L, .int x :: r, M) => if 0 ≤ (pc : Int) + off then some (if q x = true then (im_tgt pc off, L, r, M) else (pc + 3, L, r, M)) else none
  | _ => none
def im_br2 (q : Int32 → Int32 → Bool) (off : Int) (F : im_F) : Option im_F := match F with
  | (pc, L, .int y :: .int x :: r, M) => if 0 ≤ (pc : Int) + off then some (if q x y = true then (im_tgt pc off, L, r, M) else (pc + 3, L, r, M)) else none
  | _ => none
def im_tsw (dflt lo hi : Int) (offs : Array Int) (F : im_F) : Option im_F := match F with
  | (pc, L, .int x :: r, M) => if x.toInt < lo ∨ hi < x.toInt then im_jmp pc dflt (L, r, M) else match offs[(x.toInt - lo).toNat]? with
    | some off => im_jmp pc off (L, r, M)
    | none => none
  | _ => none
def im_lsw (dflt : Int) (ps : Array (Int × Int)) (F : im_F) : Option im_F := match F with
  | (pc, L, .int x :: r, M) => if (ps.toList.zip (ps.toList.drop 1)).all (fun (a, next) => a.1 < next.1) = true then im_jmp pc (Op.lookupswitch.offset ps.toList dflt x.toInt) (L, r, M) else none
  | _ => none
def im_dup (F : im_F) : Option im_F := match F with
  | (pc, L, v :: r, M) => if v.category = 1 then some (pc + 1, L, v :: v :: r, M) else none
  | _ => none
def im_pop (F : im_F) : Option im_F := match F with
  | (pc, L, v :: r, M) => if v.category = 1 then some (pc + 1, L, r, M) else none
  | _ => none
def im_dup2 (F : im_F) : Option im_F := match F with
  | (pc, L, v :: w :: r, M) => if v.category = 1 ∧ w.category = 1 then some (pc + 1, L, v :: w :: v :: w :: r, M) else if v.category = 2 then some (pc + 1, L, v :: v :: w :: r, M) else none
  | _ => none

/-- what a field link says: class and field -/
def im_isF (cl : List vw_C) (ci k : Nat) : Bool := match cl[ci]? with
  | some q => (q.2.1 k).2.2.2
  | none => true
def im_ownF (cl : List vw_C) (ci k : Nat) : String := match cl[ci]? with
  | some q => (q.2.1 k).1
  | none => ""
def im_getf (ty : Nat → Nat → FieldType) (ci k : Nat) (F : im_F) : Option im_F := match F with
  | (pc, L, .ref a :: r, M) => if a < im_n M ∧ (im_k M a).1 = ci then match ty ci k with
    | .long => some (pc + 3, L, .long (im_l M a k) :: r, M)
    | .object _ => some (pc + 3, L, va_rf (im_r M a k) :: r, M)
    | .array _ => some (pc + 3, L, va_rf (im_r M a k) :: r, M)
    | .int => some (pc + 3, L, .int (im_i M a k) :: r, M)
    | .boolean => some (pc + 3, L, .int (im_i M a k) :: r, M)
    | _ => none else none
  | _ => none
def im_putf (ty : Nat → Nat → FieldType) (ci k : Nat) (F : im_F) : Option im_F := match F with
  | (pc, L, v :: .ref a :: r, M) => if a < im_n M ∧ (im_k M a).1 = ci then match ty ci k, v with
    | .long, .long x => some (pc + 3, L, r, im_setL M a k x)
    | .object _, .ref x => some (pc + 3, L, r, im_setR M a k (some x))
    | .array _, .ref x => some (pc + 3, L, r, im_setR M a k (some x))
    | .int, .int x => some (pc + 3, L, r, im_setI M a k x)
    | .boolean, .int x => if x = 0 ∨ x = 1 then some (pc + 3, L, r, im_setI M a k x) else none
    | _, _ => none else none
  | _ => none
def im_ald (kd : Nat) (F : im_F) : Option im_F := match F with
  | (pc, L, .int i :: .ref a :: r, M) => if a < im_n M ∧ (im_k M a).1 = kd ∧ 0 ≤ i.toInt ∧ i.toInt < (im_k M a).2 then (if kd = 34 then some (pc + 1, L, .long (im_l M a i.toNatClampNeg) :: r, M) else some (pc + 1, L, .int (im_i M a i.toNatClampNeg) :: r, M)) else none
  | _ => none
def im_astI (kd : Nat) (ft : FieldType) (F : im_F) : Option im_F := match F with
  | (pc, L, .int x :: .int i :: .ref a :: r, M) => if a < im_n M ∧ (im_k M a).1 = kd ∧ 0 ≤ i.toInt ∧ i.toInt < (im_k M a).2 then some (pc + 1, L, r, im_setI M a i.toNatClampNeg (vp_nar ft x)) else none
  | _ => none
def im_astL (F : im_F) : Option im_F := match F with
  | (pc, L, .long x :: .int i :: .ref a :: r, M) => if a < im_n M ∧ (im_k M a).1 = 34 ∧ 0 ≤ i.toInt ∧ i.toInt < (im_k M a).2 then some (pc + 1, L, r, im_setL M a i.toNatClampNeg x) else none
  | _ => none
def im_alen (F : im_F) : Option im_F := match F with
  | (pc, L, .ref a :: r, M) => if a < im_n M ∧ 32 ≤ (im_k M a).1 ∧ (im_k M a).1 < 37 then some (pc + 1, L, .int (Int32.ofNat (im_k M a).2) :: r, M) else none
  | _ => none
def im_ba (F : im_F) : Option Nat := match F with
  | (_, _, .int _ :: .ref a :: _, M) => some (im_k M a).1
  | _ => none
def im_bb (F : im_F) : Option Nat := match F with
  | (_, _, .int _ :: .int _ :: .ref a :: _, M) => some (im_k M a).1
  | _ => none

def im_ok (d : Nat) (len : Nat) (x : Option im_F) : Option im_F := if len = d then x else none
def im_step (cl : List vw_C) (ty : Nat → Nat → FieldType) (fT : Nat → Nat → Option (Nat × Nat)) (cT : Nat → Nat → Option Value) (own : String) (ow : Nat) (ini : Bool) (nL : Nat) (i : Instr) (len : Nat) (F : im_F) : Option im_F := match i with
  | .iconst n => im_ok 1 len (some (im_push F 1 (.int (Int32.ofInt n))))
  | .lconst n => im_ok 1 len (some (im_push F 1 (.long (Int64.ofNat (n : Nat)))))
  | .bipush n => im_ok 2 len (some (im_push F 2 (.int (Int8.ofInt n).toInt32)))
  | .sipush n => im_ok 3 len (some (im_push F 3 (.int (Int16.ofInt n).toInt32)))
  | .iload_n k => im_ok 1 len (im_load (k : Nat) 1 0 F)
  | .iload k => im_ok 2 len (im_load k 2 0 F)
  | .lload_n k => im_ok 1 len (im_load (k : Nat) 1 1 F)
  | .lload k => im_ok 2 len (im_load k 2 1 F)
  | .aload_n k => im_ok 1 len (im_load (k : Nat) 1 2 F)
  | .aload k => im_ok 2 len (im_load k 2 2 F)
  | .istore_n k => im_ok 1 len (im_store nL (k : Nat) 1 0 F)
  | .istore k => im_ok 2 len (im_store nL k 2 0 F)
  | .lstore_n k => im_ok 1 len (im_store nL (k : Nat) 1 1 F)
  | .lstore k => im_ok 2 len (im_store nL k 2 1 F)
  | .astore_n k => im_ok 1 len (im_store nL (k : Nat) 1 2 F)
  | .astore k => im_ok 2 len (im_store nL k 2 2 F)
  | .iinc k n => im_ok 3 len (im_iinc nL k n F)
  | .iadd => im_ok 1 len (im_b32 (fun x y => x + y) F)
  | .isub => im_ok 1 len (im_b32 (fun x y => x - y) F)
  | .imul => im_ok 1 len (im_b32 (fun x y => x * y) F)
  | .iand => im_ok 1 len (im_b32 (fun x y => x &&& y) F)
  | .ior => im_ok 1 len (im_b32 (fun x y => x ||| y) F)
  | .ixor => im_ok 1 len (im_b32 (fun x y => x ^^^ y) F)
  | .ishl => im_ok 1 len (im_b32 (fun x y => x <<< (y &&& 31)) F)
  | .ishr => im_ok 1 len (im_b32 (fun x y => x >>> (y &&& 31)) F)
  | .iushr => im_ok 1 len (im_b32 (fun x y => (x.toUInt32 >>> (y.toUInt32 &&& Int32.toUInt32 31)).toInt32) F)
  | .idiv => im_ok 1 len (im_d32 (fun x y => x / y) F)
  | .irem => im_ok 1 len (im_d32 (fun x y => x - x / y * y) F)
  | .ineg => im_ok 1 len (im_c32 (fun x => -x) F)
  | .i2b => im_ok 1 len (im_c32 (fun x => x.toInt8.toInt32) F)
  | .i2s => im_ok 1 len (im_c32 (fun x => x.toInt16.toInt32) F)
  | .i2c => im_ok 1 len (im_c32 (fun x => (x.toUInt32 % 65536).toInt32) F)
  | .i2l => im_ok 1 len (im_cl F)
  | .l2i => im_ok 1 len (im_ci F)
  | .ladd => im_ok 1 len (im_b64 (fun x y => x + y) F)
  | .lsub => im_ok 1 len (im_b64 (fun x y => x - y) F)
  | .lmul => im_ok 1 len (im_b64 (fun x y => x * y) F)
  | .land => im_ok 1 len (im_b64 (fun x y => x &&& y) F)
  | .lor => im_ok 1 len (im_b64 (fun x y => x ||| y) F)
  | .lxor => im_ok 1 len (im_b64 (fun x y => x ^^^ y) F)
  | .ldiv => im_ok 1 len (im_d64 (fun x y => x / y) F)
  | .lrem => im_ok 1 len (im_d64 (fun x y => x - x / y * y) F)
  | .lneg => im_ok 1 len (im_n64 F)
  | .lshl => im_ok 1 len (im_s64 (fun x y => x <<< (y.toInt64 &&& 63)) F)
  | .lshr => im_ok 1 len (im_s64 (fun x y => x >>> (y.toInt64 &&& 63)) F)
  | .lushr => im_ok 1 len (im_s64 (fun x y => (x.toUInt64 >>> (y.toInt64.toUInt64 &&& Int64.toUInt64 63)).toInt64) F)
  | .lcmp => im_ok 1 len (im_lcmp F)
  | .dup => im_ok 1 len (im_dup F)
  | .dup2 => im_ok 1 len (im_dup2 F)
  | .pop => im_ok 1 len (im_pop F)
  | .goto off => im_ok 3 len (im_jmp F.1 off F.2)
  | .ifCond .eq off => im_ok 3 len (im_br1 (fun x => decide (x = 0)) off F)
  | .ifCond .ne off => im_ok 3 len (im_br1 (fun x => decide (¬ x = 0)) off F)
  | .ifCond .lt off => im_ok 3 len (im_br1 (fun x => decide (x < 0)) off F)
  | .ifCond .ge off => im_ok 3 len (im_br1 (fun x => decide (0 ≤ x)) off F)
  | .ifCond .gt off => im_ok 3 len (im_br1 (fun x => decide (0 < x)) off F)
  | .ifCond .le off => im_ok 3 len (im_br1 (fun x => decide (x ≤ 0)) off F)
  | .if_icmp .eq off => im_ok 3 len (im_br2 (fun x y => decide (x = y)) off F)
  | .if_icmp .ne off => im_ok 3 len (im_br2 (fun x y => decide (¬ x = y)) off F)
  | .if_icmp .lt off => im_ok 3 len (im_br2 (fun x y => decide (x < y)) off F)
  | .if_icmp .ge off => im_ok 3 len (im_br2 (fun x y => decide (y ≤ x)) off F)
  | .if_icmp .gt off => im_ok 3 len (im_br2 (fun x y => decide (y < x)) off F)
  | .if_icmp .le off => im_ok 3 len (im_br2 (fun x y => decide (x ≤ y)) off F)
  | .tableswitch dflt lo hi offs => im_tsw dflt lo hi offs F
  | .lookupswitch dflt ps => im_lsw dflt ps F
  | .getfield k => im_ok 3 len (match fT ow k with
    | some (ci, f) => im_getf ty ci f F
    | none => none)
  | .putfield k => im_ok 3 len (match fT ow k with
    | some (ci, f) => if im_isF cl ci f = false ∨ (ini = true ∧ im_ownF cl ci f = own) then im_putf ty ci f F else none
    | none => none)
  | .baload => im_ok 1 len (if im_ba F = some 36 then im_ald 36 F else im_ald 32 F)
  | .iaload => im_ok 1 len (im_ald 33 F)
  | .laload => im_ok 1 len (im_ald 34 F)
  | .saload => im_ok 1 len (im_ald 35 F)
  | .bastore => im_ok 1 len (if im_bb F = some 36 then im_astI 36 .boolean F else im_astI 32 .byte F)
  | .iastore => im_ok 1 len (im_astI 33 .int F)
  | .sastore => im_ok 1 len (im_astI 35 .short F)
  | .lastore => im_ok 1 len (im_astL F)
  | .arraylength => im_ok 1 len (im_alen F)
  | .ldc k => im_ok 2 len (match cT ow k with
    | some (.int v) => some (im_push F 2 (.int v))
    | _ => none)
  | .ldc_w k => im_ok 3 len (match cT ow k with
    | some (.int v) => some (im_push F 3 (.int v))
    | _ => none)
  | .ldc2_w k => im_ok 3 len (match cT ow k with
    | some (.long v) => some (im_push F 3 (.long v))
    | _ => none)
  | _ => none
