/-! A LOGIC OVER THE PURE MACHINE -/
theorem ir_mono {G : im_G} : ∀ (n dep : Nat) (d : im_J) (F : im_F) (r : Option Value × im_M), im_run G n dep d F = some r → im_run G (n + 1) dep d F = some r := by
  intro n
  induction n with
  | zero => intro dep d F r h; cases h
  | succ n ih =>
    intro dep d F r h
    cases dep with
    | zero => cases h
    | succ dep =>
      unfold im_run at h ⊢
      cases hdec : decode d.2.1 F.1 with
      | error q => rw [hdec] at h; cases h
      | ok q =>
        obtain ⟨i, len⟩ := q
        rw [hdec] at h
        simp only at h ⊢
        by_cases hr : im_isret i = true
        · rw [if_pos hr] at h ⊢
          exact h
        · rw [if_neg hr] at h ⊢
          cases hcall : im_iscall G d i with
          | some kk =>
            obtain ⟨k, kd⟩ := kk
            rw [hcall] at h
            simp only at h ⊢
            by_cases hl : len = 3
            · rw [if_pos hl] at h ⊢
              cases hp : im_prep G d.2.2.2.2.2.2 k kd F with
              | none => rw [hp] at h; cases h
              | some t =>
                obtain ⟨d', vs, rest⟩ := t
                rw [hp] at h
                simp only at h ⊢
                cases hrun : im_run G n dep d' (0, lv_args 0 vs, [], F.2.2.2) with
                | none => rw [hrun] at h; cases h
                | some r1 =>
                  rw [hrun] at h
                  rw [ih _ _ _ _ hrun]
                  exact ih _ _ _ _ h
            · rw [if_neg hl] at h
              cases h
          | none =>
            rw [hcall] at h
            simp only at h ⊢
            cases hn : im_nat G d i len F with
            | none => rw [hn] at h; cases h
            | some F' =>
              rw [hn] at h
              exact ih _ _ _ _ h
theorem ir_le {G : im_G} {n k dep : Nat} {d : im_J} {F : im_F} {r : Option Value × im_M} (h : im_run G n dep d F = some r) (hk : n ≤ k) : im_run G k dep d F = some r := by
  obtain ⟨j, rfl⟩ := Nat.le.dest hk
  induction j with
  | zero => exact h
  | succ j ih => exact ir_mono _ _ _ _ _ (ih (Nat.le_add_right _ _))
theorem it_mono {G : im_G} {X : im_E} : ∀ (n dep : Nat) (d : im_J) (F : im_F) (r : Nat × im_M), im_thr G X n dep d F = some r → im_thr G X (n + 1) dep d F = some r := by
  intro n
  induction n with
  | zero => intro dep d F r h; cases h
  | succ n ih =>
    intro dep d F r h
    cases dep with
    | zero => cases h
    | succ dep =>
      unfold im_thr at h ⊢
      cases hdec : decode d.2.1 F.1 with
      | error q => rw [hdec] at h; cases h
      | ok q =>
        obtain ⟨i, len⟩ := q
        rw [hdec] at h
        simp only at h ⊢
        cases ht : im_isthr X d i F with
        | some E =>
          rw [ht] at h
          exact h
        | none =>
          rw [ht] at h
          simp only at h ⊢
          by_cases hr : im_isret i = true
          · rw [if_pos hr] at h
            cases h
          · rw [if_neg hr] at h ⊢
            cases hcall : im_iscall G d i with
            | some kk =>
              obtain ⟨k, kd⟩ := kk
              rw [hcall] at h
              simp only at h ⊢
              by_cases hl : len = 3
              · rw [if_pos hl] at h ⊢
                cases hp : im_prep G d.2.2.2.2.2.2 k kd F with
                | none => rw [hp] at h; cases h
                | some t =>
                  obtain ⟨d', vs, rest⟩ := t
                  rw [hp] at h
                  simp only at h ⊢
                  cases hrun : im_run G n dep d' (0, lv_args 0 vs, [], F.2.2.2) with
                  | none => rw [hrun] at h; cases h
                  | some r1 =>
                    rw [hrun] at h
                    rw [ir_mono _ _ _ _ _ hrun]
                    exact ih _ _ _ _ h
              · rw [if_neg hl] at h
                cases h
            | none =>
              rw [hcall] at h
              simp only at h ⊢
              cases hn : im_nat G d i len F with
              | none => rw [hn] at h; cases h
              | some F' =>
                rw [hn] at h
                exact ih _ _ _ _ h
theorem it_le {G : im_G} {X : im_E} {n k dep : Nat} {d : im_J} {F : im_F} {r : Nat × im_M} (h : im_thr G X n dep d F = some r) (hk : n ≤ k) : im_thr G X k dep d F = some r := by
  obtain ⟨j, rfl⟩ := Nat.le.dest hk
  induction j with
  | zero => exact h
  | succ j ih => exact it_mono _ _ _ _ _ (ih (Nat.le_add_right _ _))
/-- the run from F ends, with P -/
def ia (G : im_G) (dep : Nat) (d : im_J) (P : Option Value → im_M → Prop) (F : im_F) : Prop := ∃ (n : Nat) (v : Option Value) (M' : im_M), im_run G n (dep + 1) d F = some (v, M') ∧ P v M'
/-- the run from F ends with a throw, with P -/
def it (G : im_G) (X : im_E) (dep : Nat) (d : im_J) (P : Nat → im_M → Prop) (F : im_F) : Prop := ∃ (n : Nat) (E : Nat) (M' : im_M), im_thr G X n (dep + 1) d F = some (E, M') ∧ P E M'
/-- a plain instruction -/
def im_plain (i : Instr) : Bool := match i with
  | .return_ => false
  | .ireturn => false
  | .lreturn => false
  | .areturn => false
  | .invokevirtual _ => false
  | .invokestatic _ => false
  | .invokespecial _ => false
  | .new _ => false
  | _ => true
/-- R goes back over plain instructions, and over calls that end -/
def im_St (G : im_G) (dep : Nat) (d : im_J) (R : im_F → Prop) : Prop := (∀ (F F' : im_F) (i : Instr) (len : Nat), decode d.2.1 F.1 = .ok (i, len) → im_plain i = true → im_one G d i len F = some F' → R F' → R F) ∧ (∀ (F F' : im_F) (i : Instr), decode d.2.1 F.1 = .ok (i, 3) → im_iscall G d i = none → im_isret i = false → (∀ k, i ≠ .new k) → im_nat G d i 3 F = some F' → R F' → R F) ∧
  ∀ (F : im_F) (i : Instr) (k kd : Nat) (d' : im_J) (vs rest : List Value) (P : Option Value → im_M → Prop), decode d.2.1 F.1 = .ok (i, 3) → im_iscall G d i = some (k, kd) → im_prep G d.2.2.2.2.2.2 k kd F = some (d', vs, rest) → (match dep with | 0 => False | dep' + 1 => ia G dep' d' P (0, lv_args 0 vs, [], F.2.2.2)) → (∀ v M1, P v M1 → R (F.1 + 3, F.2.1, v.toList ++ rest, M1)) → R F
theorem im_plain_nat {G : im_G} {d : im_J} {i : Instr} {len : Nat} {F : im_F} (h : im_plain i = true) : im_isret i = false ∧ im_iscall G d i = none ∧ im_nat G d i len F = im_one G d i len F := by
  cases i <;> first | exact ⟨rfl, rfl, rfl⟩ | (cases h; done)
theorem ia_St {G : im_G} {dep : Nat} {d : im_J} {P : Option Value → im_M → Prop} : im_St G dep d (ia G dep d P) := by
  refine ⟨?_, ?_, ?_⟩
  · intro F F' i len hd hp ho hR
    obtain ⟨n, v, M', h, hP⟩ := hR
    obtain ⟨e1, e2, e3⟩ := im_plain_nat (G := G) (d := d) (len := len) (F := F) hp
    refine ⟨n + 1, v, M', ?_, hP⟩
    unfold im_run
    rw [hd]
    simp only
    rw [e1, e2, e3, ho]
    simpa using h
  · intro F F' i hd hc hr hw ho hR
    obtain ⟨n, v, M', h, hP⟩ := hR
    refine ⟨n + 1, v, M', ?_, hP⟩
    unfold im_run
    rw [hd]
    simp only
    rw [hr, hc, ho]
    simpa using h
  · intro F i k kd d' vs rest Pc hd hc hp hcal hk
    cases dep with
    | zero => exact hcal.elim
    | succ dep =>
      obtain ⟨n1, v1, M1, h1, hP1⟩ := hcal
      obtain ⟨n2, v2, M2, h2, hP2⟩ := hk v1 M1 hP1
      refine ⟨max n1 n2 + 1, v2, M2, ?_, hP2⟩
      have hr : im_isret i = false := by cases i <;> first | rfl | (cases hc; done)
      unfold im_run
      rw [hd]
      simp only
      rw [hr, hc]
      simp only [if_true, hp]
      rw [ir_le h1 (Nat.le_max_left _ _)]
      simpa using ir_le h2 (Nat.le_max_right _ _)
theorem im_thr_new {X : im_E} {d : im_J} {i : Instr} {F : im_F} (h : ∀ k, i ≠ .new k) : im_isthr X d i F = none := by
  cases i <;> first | rfl | exact absurd rfl (h _)
theorem it_St {G : im_G} {X : im_E} {dep : Nat} {d : im_J} {P : Nat → im_M → Prop} : im_St G dep d (it G X dep d P) := by
  refine ⟨?_, ?_, ?_⟩
  · intro F F' i len hd hp ho hR
    obtain ⟨n, v, M', h, hP⟩ := hR
    obtain ⟨e1, e2, e3⟩ := im_plain_nat (G := G) (d := d) (len := len) (F := F) hp
    refine ⟨n + 1, v, M', ?_, hP⟩
    unfold im_thr
    rw [hd]
    simp only
    rw [im_thr_new (by intro k q; subst q; cases hp), e1, e2, e3, ho]
    simpa using h
  · intro F F' i hd hc hr hw ho hR
    obtain ⟨n, v, M', h, hP⟩ := hR
    refine ⟨n + 1, v, M', ?_, hP⟩
    unfold im_thr
    rw [hd]
    simp only
    rw [im_thr_new hw, hr, hc, ho]
    simpa using h
  · intro F i k kd d' vs rest Pc hd hc hp hcal hk
    cases dep with
    | zero => exact hcal.elim
    | succ dep =>
      obtain ⟨n1, v1, M1, h1, hP1⟩ := hcal
      obtain ⟨n2, v2, M2, h2, hP2⟩ := hk v1 M1 hP1
      refine ⟨max n1 n2 + 1, v2, M2, ?_, hP2⟩
      have hr : im_isret i = false := by cases i <;> first | rfl | (cases hc; done)
      have hw : ∀ k, i ≠ .new k := by intro k q; subst q; cases hc
      unfold im_thr
      rw [hd]
      simp only
      rw [im_thr_new hw, hr, hc]
      simp only [if_true, hp]
      rw [ir_le h1 (Nat.le_max_left _ _)]
      simpa using it_le h2 (Nat.le_max_right _ _)
section IAR
variable {G : im_G} {dep : Nat} {d : im_J} {R : im_F → Prop} {pc : Nat} {L : List (Nat × Value)} {r : List Value} {M : im_M}
theorem ia_one {i : Instr} {len : Nat} {F F' : im_F} (h : im_St G dep d R) (hd : decode d.2.1 F.1 = .ok (i, len)) (hp : im_plain i = true) (ho : im_step (ig_cl G) (ig_ty G) (ig_fT G) (ig_cT G) (ig_nm G d.2.2.2.2.2.2) d.2.2.2.2.2.2 (decide (2 ≤ d.2.2.2.2.2.1)) d.2.2.1 i len F = some F') (k : R F') : R F := by
  refine h.1 F F' i len hd hp ?_ k
  cases i <;> first | (cases ho; done) | (cases hp; done) | (simp only [im_one]; rw [ho])
theorem ia_oneX {i : Instr} {len : Nat} {F F' : im_F} (h : im_St G dep d R) (hd : decode d.2.1 F.1 = .ok (i, len)) (hp : im_plain i = true) (hn : im_step (ig_cl G) (ig_ty G) (ig_fT G) (ig_cT G) (ig_nm G d.2.2.2.2.2.2) d.2.2.2.2.2.2 (decide (2 ≤ d.2.2.2.2.2.1)) d.2.2.1 i len F = none) (ho : im_stepX (ig_gT G) (ig_xk G) (ig_xi G) (ig_sT G) (ig_vT G) d.2.2.2.2.2.2 i len F = some F') (k : R F') : R F := by
  refine h.1 F F' i len hd hp ?_ k
  cases i <;> first | (cases ho; done) | (cases hp; done) | (simp only [im_one]; rw [hn]; exact ho)

theorem is_iconst (h : im_St G dep d R) {n : Int} (hd : decode d.2.1 pc = .ok (.iconst n, 1))  (k : R (pc + 1, L, .int (Int32.ofInt n) :: r, M)) : R (pc, L, r, M) := ia_one h hd rfl rfl k
theorem is_lconst (h : im_St G dep d R) {n : Fin 2} (hd : decode d.2.1 pc = .ok (.lconst n, 1))  (k : R (pc + 1, L, .long (Int64.ofNat (n : Nat)) :: r, M)) : R (pc, L, r, M) := ia_one h hd rfl rfl k
theorem is_bipush (h : im_St G dep d R) {n : Int} (hd : decode d.2.1 pc = .ok (.bipush n, 2))  (k : R (pc + 2, L, .int (Int8.ofInt n).toInt32 :: r, M)) : R (pc, L, r, M) := ia_one h hd rfl rfl k
theorem is_sipush (h : im_St G dep d R) {n : Int} (hd : decode d.2.1 pc = .ok (.sipush n, 3))  (k : R (pc + 3, L, .int (Int16.ofInt n).toInt32 :: r, M)) : R (pc, L, r, M) := ia_one h hd rfl rfl k
theorem is_iload_n (h : im_St G dep d R) {i : Fin 4} {x : Int32} (hd : decode d.2.1 pc = .ok (.iload_n i, 1)) (hl : im_lk L (i : Nat) = some (.int x)) (k : R (pc + 1, L, .int x :: r, M)) : R (pc, L, r, M) := ia_one h hd rfl (by simp [im_step, im_ok, im_load, hl, im_push]) k
theorem is_iload (h : im_St G dep d R) {i : Nat} {x : Int32} (hd : decode d.2.1 pc = .ok (.iload i, 2)) (hl : im_lk L i = some (.int x)) (k : R (pc + 2, L, .int x :: r, M)) : R (pc, L, r, M) := ia_one h hd rfl (by simp [im_step, im_ok, im_load, hl, im_push]) k
theorem is_lload_n (h : im_St G dep d R) {i : Fin 4} {x : Int64} (hd : decode d.2.1 pc = .ok (.lload_n i, 1)) (hl : im_lk L (i : Nat) = some (.long x)) (k : R (pc + 1, L, .long x :: r, M)) : R (pc, L, r, M) := ia_one h hd rfl (by simp [im_step, im_ok, im_load, hl, im_push]) k
theorem is_lload (h : im_St G dep d R) {i : Nat} {x : Int64} (hd : decode d.2.1 pc = .ok (.lload i, 2)) (hl : im_lk L i = some (.long x)) (k : R (pc + 2, L, .long x :: r, M)) : R (pc, L, r, M) := ia_one h hd rfl (by simp [im_step, im_ok, im_load, hl, im_push]) k
theorem is_aload_n (h : im_St G dep d R) {i : Fin 4} {x : Nat} (hd : decode d.2.1 pc = .ok (.aload_n i, 1)) (hl : im_lk L (i : Nat) = some (.ref x)) (k : R (pc + 1, L, .ref x :: r, M)) : R (pc, L, r, M) := ia_one h hd rfl (by simp [im_step, im_ok, im_load, hl, im_push]) k
theorem is_aload (h : im_St G dep d R) {i : Nat} {x : Nat} (hd : decode d.2.1 pc = .ok (.aload i, 2)) (hl : im_lk L i = some (.ref x)) (k : R (pc + 2, L, .ref x :: r, M)) : R (pc, L, r, M) := ia_one h hd rfl (by simp [im_step, im_ok, im_load, hl, im_push]) k
theorem is_istore_n (h : im_St G dep d R) {i : Fin 4} {x : Int32} (hd : decode d.2.1 pc = .ok (.istore_n i, 1)) (hn : (i : Nat) < d.2.2.1) (k : R (pc + 1, im_st1 L (i : Nat) (.int x), r, M)) : R (pc, L, .int x :: r, M) := ia_one h hd rfl (by simp [im_step, im_ok, im_store, hn]) k
theorem is_istore (h : im_St G dep d R) {i : Nat} {x : Int32} (hd : decode d.2.1 pc = .ok (.istore i, 2)) (hn : i < d.2.2.1) (k : R (pc + 2, im_st1 L i (.int x), r, M)) : R (pc, L, .int x :: r, M) := ia_one h hd rfl (by simp [im_step, im_ok, im_store, hn]) k
theorem is_lstore_n (h : im_St G dep d R) {i : Fin 4} {x : Int64} (hd : decode d.2.1 pc = .ok (.lstore_n i, 1)) (hn : (i : Nat) + 1 < d.2.2.1) (k : R (pc + 1, im_st2 L (i : Nat) (.long x), r, M)) : R (pc, L, .long x :: r, M) := ia_one h hd rfl (by simp [im_step, im_ok, im_store, hn]) k
theorem is_lstore (h : im_St G dep d R) {i : Nat} {x : Int64} (hd : decode d.2.1 pc = .ok (.lstore i, 2)) (hn : i + 1 < d.2.2.1) (k : R (pc + 2, im_st2 L i (.long x), r, M)) : R (pc, L, .long x :: r, M) := ia_one h hd rfl (by simp [im_step, im_ok, im_store, hn]) k
theorem is_astore_n (h : im_St G dep d R) {i : Fin 4} {x : Nat} (hd : decode d.2.1 pc = .ok (.astore_n i, 1)) (hn : (i : Nat) < d.2.2.1) (k : R (pc + 1, im_st1 L (i : Nat) (.ref x), r, M)) : R (pc, L, .ref x :: r, M) := ia_one h hd rfl (by simp [im_step, im_ok, im_store, hn]) k
theorem is_astore (h : im_St G dep d R) {i : Nat} {x : Nat} (hd : decode d.2.1 pc = .ok (.astore i, 2)) (hn : i < d.2.2.1) (k : R (pc + 2, im_st1 L i (.ref x), r, M)) : R (pc, L, .ref x :: r, M) := ia_one h hd rfl (by simp [im_step, im_ok, im_store, hn]) k
theorem is_iinc (h : im_St G dep d R) {i : Nat} {n : Int} {x : Int32} (hd : decode d.2.1 pc = .ok (.iinc i n, 3)) (hl : im_lk L i = some (.int x)) (hn : i < d.2.2.1) (k : R (pc + 3, im_st1 L i (.int (x + Int32.ofInt n)), r, M)) : R (pc, L, r, M) := ia_one h hd rfl (by simp [im_step, im_ok, im_iinc, hl, hn]) k
theorem is_iadd (h : im_St G dep d R) {x y : Int32} (hd : decode d.2.1 pc = .ok (.iadd, 1))  (k : R (pc + 1, L, .int (x + y) :: r, M)) : R (pc, L, .int y :: .int x :: r, M) := ia_one h hd rfl rfl k
theorem is_isub (h : im_St G dep d R) {x y : Int32} (hd : decode d.2.1 pc = .ok (.isub, 1))  (k : R (pc + 1, L, .int (x - y) :: r, M)) : R (pc, L, .int y :: .int x :: r, M) := ia_one h hd rfl rfl k
theorem is_imul (h : im_St G dep d R) {x y : Int32} (hd : decode d.2.1 pc = .ok (.imul, 1))  (k : R (pc + 1, L, .int (x * y) :: r, M)) : R (pc, L, .int y :: .int x :: r, M) := ia_one h hd rfl rfl k
theorem is_iand (h : im_St G dep d R) {x y : Int32} (hd : decode d.2.1 pc = .ok (.iand, 1))  (k : R (pc + 1, L, .int (x &&& y) :: r, M)) : R (pc, L, .int y :: .int x :: r, M) := ia_one h hd rfl rfl k
theorem is_ior (h : im_St G dep d R) {x y : Int32} (hd : decode d.2.1 pc = .ok (.ior, 1))  (k : R (pc + 1, L, .int (x ||| y) :: r, M)) : R (pc, L, .int y :: .int x :: r, M) := ia_one h hd rfl rfl k
theorem is_ixor (h : im_St G dep d R) {x y : Int32} (hd : decode d.2.1 pc = .ok (.ixor, 1))  (k : R (pc + 1, L, .int (x ^^^ y) :: r, M)) : R (pc, L, .int y :: .int x :: r, M) := ia_one h hd rfl rfl k
theorem is_ishl (h : im_St G dep d R) {x y : Int32} (hd : decode d.2.1 pc = .ok (.ishl, 1))  (k : R (pc + 1, L, .int (x <<< (y &&& 31)) :: r, M)) : R (pc, L, .int y :: .int x :: r, M) := ia_one h hd rfl rfl k
theorem is_ishr (h : im_St G dep d R) {x y : Int32} (hd : decode d.2.1 pc = .ok (.ishr, 1))  (k : R (pc + 1, L, .int (x >>> (y &&& 31)) :: r, M)) : R (pc, L, .int y :: .int x :: r, M) := ia_one h hd rfl rfl k
theorem is_iushr (h : im_St G dep d R) {x y : Int32} (hd : decode d.2.1 pc = .ok (.iushr, 1))  (k : R (pc + 1, L, .int ((x.toUInt32 >>> (y.toUInt32 &&& Int32.toUInt32 31)).toInt32) :: r, M)) : R (pc, L, .int y :: .int x :: r, M) := ia_one h hd rfl rfl k
theorem is_idiv (h : im_St G dep d R) {x y : Int32} (hd : decode d.2.1 pc = .ok (.idiv, 1)) (hy : ¬ y = 0) (k : R (pc + 1, L, .int (x / y) :: r, M)) : R (pc, L, .int y :: .int x :: r, M) := ia_one h hd rfl (by simp [im_step, im_ok, im_d32, hy]) k
theorem is_irem (h : im_St G dep d R) {x y : Int32} (hd : decode d.2.1 pc = .ok (.irem, 1)) (hy : ¬ y = 0) (k : R (pc + 1, L, .int (x - x / y * y) :: r, M)) : R (pc, L, .int y :: .int x :: r, M) := ia_one h hd rfl (by simp [im_step, im_ok, im_d32, hy]) k
theorem is_ladd (h : im_St G dep d R) {x y : Int64} (hd : decode d.2.1 pc = .ok (.ladd, 1))  (k : R (pc + 1, L, .long (x + y) :: r, M)) : R (pc, L, .long y :: .long x :: r, M) := ia_one h hd rfl rfl k
theorem is_lsub (h : im_St G dep d R) {x y : Int64} (hd : decode d.2.1 pc = .ok (.lsub, 1))  (k : R (pc + 1, L, .long (x - y) :: r, M)) : R (pc, L, .long y :: .long x :: r, M) := ia_one h hd rfl rfl k
theorem is_lmul (h : im_St G dep d R) {x y : Int64} (hd : decode d.2.1 pc = .ok (.lmul, 1))  (k : R (pc + 1, L, .long (x * y) :: r, M)) : R (pc, L, .long y :: .long x :: r, M) := ia_one h hd rfl rfl k
theorem is_land (h : im_St G dep d R) {x y : Int64} (hd : decode d.2.1 pc = .ok (.land, 1))  (k : R (pc + 1, L, .long (x &&& y) :: r, M)) : R (pc, L, .long y :: .long x :: r, M) := ia_one h hd rfl rfl k
theorem is_lor (h : im_St G dep d R) {x y : Int64} (hd : decode d.2.1 pc = .ok (.lor, 1))  (k : R (pc + 1, L, .long (x ||| y) :: r, M)) : R (pc, L, .long y :: .long x :: r, M) := ia_one h hd rfl rfl k
theorem is_lxor (h : im_St G dep d R) {x y : Int64} (hd : decode d.2.1 pc = .ok (.lxor, 1))  (k : R (pc + 1, L, .long (x ^^^ y) :: r, M)) : R (pc, L, .long y :: .long x :: r, M) := ia_one h hd rfl rfl k
theorem is_ldiv (h : im_St G dep d R) {x y : Int64} (hd : decode d.2.1 pc = .ok (.ldiv, 1)) (hy : ¬ y = 0) (k : R (pc + 1, L, .long (x / y) :: r, M)) : R (pc, L, .long y :: .long x :: r, M) := ia_one h hd rfl (by simp [im_step, im_ok, im_d64, hy]) k
theorem is_lrem (h : im_St G dep d R) {x y : Int64} (hd : decode d.2.1 pc = .ok (.lrem, 1)) (hy : ¬ y = 0) (k : R (pc + 1, L, .long (x - x / y * y) :: r, M)) : R (pc, L, .long y :: .long x :: r, M) := ia_one h hd rfl (by simp [im_step, im_ok, im_d64, hy]) k
theorem is_lshl (h : im_St G dep d R) {x : Int64} {y : Int32} (hd : decode d.2.1 pc = .ok (.lshl, 1))  (k : R (pc + 1, L, .long (x <<< (y.toInt64 &&& 63)) :: r, M)) : R (pc, L, .int y :: .long x :: r, M) := ia_one h hd rfl rfl k
theorem is_lshr (h : im_St G dep d R) {x : Int64} {y : Int32} (hd : decode d.2.1 pc = .ok (.lshr, 1))  (k : R (pc + 1, L, .long (x >>> (y.toInt64 &&& 63)) :: r, M)) : R (pc, L, .int y :: .long x :: r, M) := ia_one h hd rfl rfl k
theorem is_lushr (h : im_St G dep d R) {x : Int64} {y : Int32} (hd : decode d.2.1 pc = .ok (.lushr, 1))  (k : R (pc + 1, L, .long ((x.toUInt64 >>> (y.toInt64.toUInt64 &&& Int64.toUInt64 63)).toInt64) :: r, M)) : R (pc, L, .int y :: .long x :: r, M) := ia_one h hd rfl rfl k
theorem is_ineg (h : im_St G dep d R) {x : Int32} (hd : decode d.2.1 pc = .ok (.ineg, 1))  (k : R (pc + 1, L, .int (-x) :: r, M)) : R (pc, L, .int x :: r, M) := ia_one h hd rfl rfl k
theorem is_i2b (h : im_St G dep d R) {x : Int32} (hd : decode d.2.1 pc = .ok (.i2b, 1))  (k : R (pc + 1, L, .int (x.toInt8.toInt32) :: r, M)) : R (pc, L, .int x :: r, M) := ia_one h hd rfl rfl k
theorem is_i2s (h : im_St G dep d R) {x : Int32} (hd : decode d.2.1 pc = .ok (.i2s, 1))  (k : R (pc + 1, L, .int (x.toInt16.toInt32) :: r, M)) : R (pc, L, .int x :: r, M) := ia_one h hd rfl rfl k
theorem is_i2c (h : im_St G dep d R) {x : Int32} (hd : decode d.2.1 pc = .ok (.i2c, 1))  (k : R (pc + 1, L, .int ((x.toUInt32 % 65536).toInt32) :: r, M)) : R (pc, L, .int x :: r, M) := ia_one h hd rfl rfl k
theorem is_i2l (h : im_St G dep d R) {x : Int32} (hd : decode d.2.1 pc = .ok (.i2l, 1))  (k : R (pc + 1, L, .long x.toInt64 :: r, M)) : R (pc, L, .int x :: r, M) := ia_one h hd rfl rfl k
theorem is_l2i (h : im_St G dep d R) {x : Int64} (hd : decode d.2.1 pc = .ok (.l2i, 1))  (k : R (pc + 1, L, .int x.toInt32 :: r, M)) : R (pc, L, .long x :: r, M) := ia_one h hd rfl rfl k
theorem is_lneg (h : im_St G dep d R) {x : Int64} (hd : decode d.2.1 pc = .ok (.lneg, 1))  (k : R (pc + 1, L, .long (-x) :: r, M)) : R (pc, L, .long x :: r, M) := ia_one h hd rfl rfl k
theorem is_lcmp (h : im_St G dep d R) {x y : Int64} (hd : decode d.2.1 pc = .ok (.lcmp, 1))  (k : R (pc + 1, L, .int (lg_cmp x y) :: r, M)) : R (pc, L, .long y :: .long x :: r, M) := ia_one h hd rfl rfl k
theorem is_dup (h : im_St G dep d R) {v : Value} (hd : decode d.2.1 pc = .ok (.dup, 1)) (hv : v.category = 1) (k : R (pc + 1, L, v :: v :: r, M)) : R (pc, L, v :: r, M) := ia_one h hd rfl (by simp [im_step, im_ok, im_dup, hv]) k
theorem is_pop (h : im_St G dep d R) {v : Value} (hd : decode d.2.1 pc = .ok (.pop, 1)) (hv : v.category = 1) (k : R (pc + 1, L, r, M)) : R (pc, L, v :: r, M) := ia_one h hd rfl (by simp [im_step, im_ok, im_pop, hv]) k
theorem is_dup2 (h : im_St G dep d R) {v w : Value} (hd : decode d.2.1 pc = .ok (.dup2, 1)) (hv : v.category = 1) (hw : w.category = 1) (k : R (pc + 1, L, v :: w :: v :: w :: r, M)) : R (pc, L, v :: w :: r, M) := ia_one h hd rfl (by simp [im_step, im_ok, im_dup2, hv, hw]) k
theorem is_dup2l (h : im_St G dep d R) {v : Int64} {w : Value} (hd : decode d.2.1 pc = .ok (.dup2, 1))  (k : R (pc + 1, L, .long v :: .long v :: w :: r, M)) : R (pc, L, .long v :: w :: r, M) := ia_one h hd rfl (by simp [im_step, im_ok, im_dup2, Value.category]) k
theorem is_goto (h : im_St G dep d R) {off : Int} {t : Nat} (hd : decode d.2.1 pc = .ok (.goto off, 3)) (ht : (pc : Int) + off = (t : Int)) (k : R (t, L, r, M)) : R (pc, L, r, M) := ia_one h hd rfl (by simp [im_step, im_ok, im_jmp, im_tgt, ht]) k
theorem is_if_eq (h : im_St G dep d R) {x : Int32} {off : Int} {t : Nat} (hd : decode d.2.1 pc = .ok (.ifCond .eq off, 3)) (ht : (pc : Int) + off = (t : Int)) (kt : x = 0 → R (t, L, r, M)) (kf : ¬ (x = 0) → R (pc + 3, L, r, M)) : R (pc, L, .int x :: r, M) := by
  have h0 : 0 ≤ (pc : Int) + off := by omega
  have ht' : im_tgt pc off = t := by simp [im_tgt, ht]
  by_cases hq : x = 0
  · exact ia_one h hd rfl (show _ = some (t, L, r, M) by simp only [im_step, im_ok, im_br1, if_pos h0, if_true, decide_eq_true hq, ht']) (kt hq)
  · exact ia_one h hd rfl (show _ = some (pc + 3, L, r, M) by simp only [im_step, im_ok, im_br1, if_pos h0, if_true, decide_eq_false hq, Bool.false_eq_true, if_false]) (kf hq)
theorem is_icmp_eq (h : im_St G dep d R) {x y : Int32} {off : Int} {t : Nat} (hd : decode d.2.1 pc = .ok (.if_icmp .eq off, 3)) (ht : (pc : Int) + off = (t : Int)) (kt : x = y → R (t, L, r, M)) (kf : ¬ (x = y) → R (pc + 3, L, r, M)) : R (pc, L, .int y :: .int x :: r, M) := by
  have h0 : 0 ≤ (pc : Int) + off := by omega
  have ht' : im_tgt pc off = t := by simp [im_tgt, ht]
  by_cases hq : x = y
  · exact ia_one h hd rfl (show _ = some (t, L, r, M) by simp only [im_step, im_ok, im_br2, if_pos h0, if_true, decide_eq_true hq, ht']) (kt hq)
  · exact ia_one h hd rfl (show _ = some (pc + 3, L, r, M) by simp only [im_step, im_ok, im_br2, if_pos h0, if_true, decide_eq_false hq, Bool.false_eq_true, if_false]) (kf hq)
theorem is_if_ne (h : im_St G dep d R) {x : Int32} {off : Int} {t : Nat} (hd : decode d.2.1 pc = .ok (.ifCond .ne off, 3)) (ht : (pc : Int) + off = (t : Int)) (kt : ¬ x = 0 → R (t, L, r, M)) (kf : ¬ (¬ x = 0) → R (pc + 3, L, r, M)) : R (pc, L, .int x :: r, M) := by
  have h0 : 0 ≤ (pc : Int) + off := by omega
  have ht' : im_tgt pc off = t := by simp [im_tgt, ht]
  by_cases hq : ¬ x = 0
  · exact ia_one h hd rfl (show _ = some (t, L, r, M) by simp only [im_step, im_ok, im_br1, if_pos h0, if_true, decide_eq_true hq, ht']) (kt hq)
  · exact ia_one h hd rfl (show _ = some (pc + 3, L, r, M) by simp only [im_step, im_ok, im_br1, if_pos h0, if_true, decide_eq_false hq, Bool.false_eq_true, if_false]) (kf hq)
theorem is_icmp_ne (h : im_St G dep d R) {x y : Int32} {off : Int} {t : Nat} (hd : decode d.2.1 pc = .ok (.if_icmp .ne off, 3)) (ht : (pc : Int) + off = (t : Int)) (kt : ¬ x = y → R (t, L, r, M)) (kf : ¬ (¬ x = y) → R (pc + 3, L, r, M)) : R (pc, L, .int y :: .int x :: r, M) := by
  have h0 : 0 ≤ (pc : Int) + off := by omega
  have ht' : im_tgt pc off = t := by simp [im_tgt, ht]
  by_cases hq : ¬ x = y
  · exact ia_one h hd rfl (show _ = some (t, L, r, M) by simp only [im_step, im_ok, im_br2, if_pos h0, if_true, decide_eq_true hq, ht']) (kt hq)
  · exact ia_one h hd rfl (show _ = some (pc + 3, L, r, M) by simp only [im_step, im_ok, im_br2, if_pos h0, if_true, decide_eq_false hq, Bool.false_eq_true, if_false]) (kf hq)
theorem is_if_lt (h : im_St G dep d R) {x : Int32} {off : Int} {t : Nat} (hd : decode d.2.1 pc = .ok (.ifCond .lt off, 3)) (ht : (pc : Int) + off = (t : Int)) (kt : x < 0 → R (t, L, r, M)) (kf : ¬ (x < 0) → R (pc + 3, L, r, M)) : R (pc, L, .int x :: r, M) := by
  have h0 : 0 ≤ (pc : Int) + off := by omega
  have ht' : im_tgt pc off = t := by simp [im_tgt, ht]
  by_cases hq : x < 0
  · exact ia_one h hd rfl (show _ = some (t, L, r, M) by simp only [im_step, im_ok, im_br1, if_pos h0, if_true, decide_eq_true hq, ht']) (kt hq)
  · exact ia_one h hd rfl (show _ = some (pc + 3, L, r, M) by simp only [im_step, im_ok, im_br1, if_pos h0, if_true, decide_eq_false hq, Bool.false_eq_true, if_false]) (kf hq)
theorem is_icmp_lt (h : im_St G dep d R) {x y : Int32} {off : Int} {t : Nat} (hd : decode d.2.1 pc = .ok (.if_icmp .lt off, 3)) (ht : (pc : Int) + off = (t : Int)) (kt : x < y → R (t, L, r, M)) (kf : ¬ (x < y) → R (pc + 3, L, r, M)) : R (pc, L, .int y :: .int x :: r, M) := by
  have h0 : 0 ≤ (pc : Int) + off := by omega
  have ht' : im_tgt pc off = t := by simp [im_tgt, ht]
  by_cases hq : x < y
  · exact ia_one h hd rfl (show _ = some (t, L, r, M) by simp only [im_step, im_ok, im_br2, if_pos h0, if_true, decide_eq_true hq, ht']) (kt hq)
  · exact ia_one h hd rfl (show _ = some (pc + 3, L, r, M) by simp only [im_step, im_ok, im_br2, if_pos h0, if_true, decide_eq_false hq, Bool.false_eq_true, if_false]) (kf hq)
theorem is_if_ge (h : im_St G dep d R) {x : Int32} {off : Int} {t : Nat} (hd : decode d.2.1 pc = .ok (.ifCond .ge off, 3)) (ht : (pc : Int) + off = (t : Int)) (kt : 0 ≤ x → R (t, L, r, M)) (kf : ¬ (0 ≤ x) → R (pc + 3, L, r, M)) : R (pc, L, .int x :: r, M) := by
  have h0 : 0 ≤ (pc : Int) + off := by omega
  have ht' : im_tgt pc off = t := by simp [im_tgt, ht]
  by_cases hq : 0 ≤ x
  · exact ia_one h hd rfl (show _ = some (t, L, r, M) by simp only [im_step, im_ok, im_br1, if_pos h0, if_true, decide_eq_true hq, ht']) (kt hq)
  · exact ia_one h hd rfl (show _ = some (pc + 3, L, r, M) by simp only [im_step, im_ok, im_br1, if_pos h0, if_true, decide_eq_false hq, Bool.false_eq_true, if_false]) (kf hq)
theorem is_icmp_ge (h : im_St G dep d R) {x y : Int32} {off : Int} {t : Nat} (hd : decode d.2.1 pc = .ok (.if_icmp .ge off, 3)) (ht : (pc : Int) + off = (t : Int)) (kt : y ≤ x → R (t, L, r, M)) (kf : ¬ (y ≤ x) → R (pc + 3, L, r, M)) : R (pc, L, .int y :: .int x :: r, M) := by
  have h0 : 0 ≤ (pc : Int) + off := by omega
  have ht' : im_tgt pc off = t := by simp [im_tgt, ht]
  by_cases hq : y ≤ x
  · exact ia_one h hd rfl (show _ = some (t, L, r, M) by simp only [im_step, im_ok, im_br2, if_pos h0, if_true, decide_eq_true hq, ht']) (kt hq)
  · exact ia_one h hd rfl (show _ = some (pc + 3, L, r, M) by simp only [im_step, im_ok, im_br2, if_pos h0, if_true, decide_eq_false hq, Bool.false_eq_true, if_false]) (kf hq)
theorem is_if_gt (h : im_St G dep d R) {x : Int32} {off : Int} {t : Nat} (hd : decode d.2.1 pc = .ok (.ifCond .gt off, 3)) (ht : (pc : Int) + off = (t : Int)) (kt : 0 < x → R (t, L, r, M)) (kf : ¬ (0 < x) → R (pc + 3, L, r, M)) : R (pc, L, .int x :: r, M) := by
  have h0 : 0 ≤ (pc : Int) + off := by omega
  have ht' : im_tgt pc off = t := by simp [im_tgt, ht]
  by_cases hq : 0 < x
  · exact ia_one h hd rfl (show _ = some (t, L, r, M) by simp only [im_step, im_ok, im_br1, if_pos h0, if_true, decide_eq_true hq, ht']) (kt hq)
  · exact ia_one h hd rfl (show _ = some (pc + 3, L, r, M) by simp only [im_step, im_ok, im_br1, if_pos h0, if_true, decide_eq_false hq, Bool.false_eq_true, if_false]) (kf hq)
theorem is_icmp_gt (h : im_St G dep d R) {x y : Int32} {off : Int} {t : Nat} (hd : decode d.2.1 pc = .ok (.if_icmp .gt off, 3)) (ht : (pc : Int) + off = (t : Int)) (kt : y < x → R (t, L, r, M)) (kf : ¬ (y < x) → R (pc + 3, L, r, M)) : R (pc, L, .int y :: .int x :: r, M) := by
  have h0 : 0 ≤ (pc : Int) + off := by omega
  have ht' : im_tgt pc off = t := by simp [im_tgt, ht]
  by_cases hq : y < x
  · exact ia_one h hd rfl (show _ = some (t, L, r, M) by simp only [im_step, im_ok, im_br2, if_pos h0, if_true, decide_eq_true hq, ht']) (kt hq)
  · exact ia_one h hd rfl (show _ = some (pc + 3, L, r, M) by simp only [im_step, im_ok, im_br2, if_pos h0, if_true, decide_eq_false hq, Bool.false_eq_true, if_false]) (kf hq)
theorem is_if_le (h : im_St G dep d R) {x : Int32} {off : Int} {t : Nat} (hd : decode d.2.1 pc = .ok (.ifCond .le off, 3)) (ht : (pc : Int) + off = (t : Int)) (kt : x ≤ 0 → R (t, L, r, M)) (kf : ¬ (x ≤ 0) → R (pc + 3, L, r, M)) : R (pc, L, .int x :: r, M) := by
  have h0 : 0 ≤ (pc : Int) + off := by omega
  have ht' : im_tgt pc off = t := by simp [im_tgt, ht]
  by_cases hq : x ≤ 0
  · exact ia_one h hd rfl (show _ = some (t, L, r, M) by simp only [im_step, im_ok, im_br1, if_pos h0, if_true, decide_eq_true hq, ht']) (kt hq)
  · exact ia_one h hd rfl (show _ = some (pc + 3, L, r, M) by simp only [im_step, im_ok, im_br1, if_pos h0, if_true, decide_eq_false hq, Bool.false_eq_true, if_false]) (kf hq)
theorem is_icmp_le (h : im_St G dep d R) {x y : Int32} {off : Int} {t : Nat} (hd : decode d.2.1 pc = .ok (.if_icmp .le off, 3)) (ht : (pc : Int) + off = (t : Int)) (kt : x ≤ y → R (t, L, r, M)) (kf : ¬ (x ≤ y) → R (pc + 3, L, r, M)) : R (pc, L, .int y :: .int x :: r, M) := by
  have h0 : 0 ≤ (pc : Int) + off := by omega
  have ht' : im_tgt pc off = t := by simp [im_tgt, ht]
  by_cases hq : x ≤ y
  · exact ia_one h hd rfl (show _ = some (t, L, r, M) by simp only [im_step, im_ok, im_br2, if_pos h0, if_true, decide_eq_true hq, ht']) (kt hq)
  · exact ia_one h hd rfl (show _ = some (pc + 3, L, r, M) by simp only [im_step, im_ok, im_br2, if_pos h0, if_true, decide_eq_false hq, Bool.false_eq_true, if_false]) (kf hq)
theorem is_getI (h : im_St G dep d R) {k ci f a : Nat} (hd : decode d.2.1 pc = .ok (.getfield k, 3)) (hf : ig_fT G d.2.2.2.2.2.2 k = some (ci, f)) (ht : ig_ty G ci f = .int ∨ ig_ty G ci f = .boolean) (ha : a < im_n M ∧ (im_k M a).1 = ci) (k' : R (pc + 3, L, .int (im_i M a f) :: r, M)) : R (pc, L, .ref a :: r, M) :=
  ia_one h hd rfl (by rcases ht with ht | ht <;> simp [im_step, im_ok, hf, im_getf, ht, ha]) k'
theorem is_getL (h : im_St G dep d R) {k ci f a : Nat} (hd : decode d.2.1 pc = .ok (.getfield k, 3)) (hf : ig_fT G d.2.2.2.2.2.2 k = some (ci, f)) (ht : ig_ty G ci f = .long) (ha : a < im_n M ∧ (im_k M a).1 = ci) (k' : R (pc + 3, L, .long (im_l M a f) :: r, M)) : R (pc, L, .ref a :: r, M) :=
  ia_one h hd rfl (by simp [im_step, im_ok, hf, im_getf, ht, ha]) k'
theorem is_getR (h : im_St G dep d R) {k ci f a b : Nat} (hd : decode d.2.1 pc = .ok (.getfield k, 3)) (hf : ig_fT G d.2.2.2.2.2.2 k = some (ci, f)) (ht : (∃ q, ig_ty G ci f = .object q) ∨ ∃ q, ig_ty G ci f = .array q) (ha : a < im_n M ∧ (im_k M a).1 = ci) (hb : im_r M a f = some b) (k' : R (pc + 3, L, .ref b :: r, M)) : R (pc, L, .ref a :: r, M) :=
  ia_one h hd rfl (by rcases ht with ⟨q, ht⟩ | ⟨q, ht⟩ <;> simp [im_step, im_ok, hf, im_getf, ht, ha, hb, va_rf]) k'
theorem is_putI (h : im_St G dep d R) {k ci f a : Nat} {x : Int32} (hd : decode d.2.1 pc = .ok (.putfield k, 3)) (hf : ig_fT G d.2.2.2.2.2.2 k = some (ci, f)) (hw : im_isF (ig_cl G) ci f = false ∨ (decide (2 ≤ d.2.2.2.2.2.1) = true ∧ im_ownF (ig_cl G) ci f = ig_nm G d.2.2.2.2.2.2)) (ht : ig_ty G ci f = .int) (ha : a < im_n M ∧ (im_k M a).1 = ci) (k' : R (pc + 3, L, r, im_setI M a f x)) : R (pc, L, .int x :: .ref a :: r, M) :=
  ia_one h hd rfl (by simp only [im_step, im_ok, hf, if_true]; rw [if_pos hw]; simp [im_putf, ht, ha]) k'
theorem is_putZ (h : im_St G dep d R) {k ci f a : Nat} {x : Int32} (hd : decode d.2.1 pc = .ok (.putfield k, 3)) (hf : ig_fT G d.2.2.2.2.2.2 k = some (ci, f)) (hw : im_isF (ig_cl G) ci f = false ∨ (decide (2 ≤ d.2.2.2.2.2.1) = true ∧ im_ownF (ig_cl G) ci f = ig_nm G d.2.2.2.2.2.2)) (ht : ig_ty G ci f = .boolean) (ha : a < im_n M ∧ (im_k M a).1 = ci) (hx : x = 0 ∨ x = 1) (k' : R (pc + 3, L, r, im_setI M a f x)) : R (pc, L, .int x :: .ref a :: r, M) :=
  ia_one h hd rfl (by simp only [im_step, im_ok, hf, if_true]; rw [if_pos hw]; simp only [im_putf, ht]; rw [if_pos ha, if_pos hx]) k'
theorem is_putL (h : im_St G dep d R) {k ci f a : Nat} {x : Int64} (hd : decode d.2.1 pc = .ok (.putfield k, 3)) (hf : ig_fT G d.2.2.2.2.2.2 k = some (ci, f)) (hw : im_isF (ig_cl G) ci f = false ∨ (decide (2 ≤ d.2.2.2.2.2.1) = true ∧ im_ownF (ig_cl G) ci f = ig_nm G d.2.2.2.2.2.2)) (ht : ig_ty G ci f = .long) (ha : a < im_n M ∧ (im_k M a).1 = ci) (k' : R (pc + 3, L, r, im_setL M a f x)) : R (pc, L, .long x :: .ref a :: r, M) :=
  ia_one h hd rfl (by simp only [im_step, im_ok, hf, if_true]; rw [if_pos hw]; simp [im_putf, ht, ha]) k'
theorem is_putR (h : im_St G dep d R) {k ci f a b : Nat} (hd : decode d.2.1 pc = .ok (.putfield k, 3)) (hf : ig_fT G d.2.2.2.2.2.2 k = some (ci, f)) (hw : im_isF (ig_cl G) ci f = false ∨ (decide (2 ≤ d.2.2.2.2.2.1) = true ∧ im_ownF (ig_cl G) ci f = ig_nm G d.2.2.2.2.2.2)) (ht : (∃ q, ig_ty G ci f = .object q) ∨ ∃ q, ig_ty G ci f = .array q) (ha : a < im_n M ∧ (im_k M a).1 = ci) (k' : R (pc + 3, L, r, im_setR M a f (some b))) : R (pc, L, .ref b :: .ref a :: r, M) :=
  ia_one h hd rfl (by simp only [im_step, im_ok, hf, if_true]; rw [if_pos hw]; rcases ht with ⟨q, ht⟩ | ⟨q, ht⟩ <;> simp [im_putf, ht, ha]) k'

theorem is_iaload (h : im_St G dep d R) {a : Nat} {i : Int32} (hd : decode d.2.1 pc = .ok (.iaload, 1)) (ha : a < im_n M ∧ (im_k M a).1 = 33 ∧ 0 ≤ i.toInt ∧ i.toInt < (im_k M a).2) (k : R (pc + 1, L, .int (im_i M a i.toNatClampNeg) :: r, M)) : R (pc, L, .int i :: .ref a :: r, M) :=
  ia_one h hd rfl (by simp only [im_step, im_ok, if_true, im_ald]; rw [if_pos ha]; try rfl) k
theorem is_saload (h : im_St G dep d R) {a : Nat} {i : Int32} (hd : decode d.2.1 pc = .ok (.saload, 1)) (ha : a < im_n M ∧ (im_k M a).1 = 35 ∧ 0 ≤ i.toInt ∧ i.toInt < (im_k M a).2) (k : R (pc + 1, L, .int (im_i M a i.toNatClampNeg) :: r, M)) : R (pc, L, .int i :: .ref a :: r, M) :=
  ia_one h hd rfl (by simp only [im_step, im_ok, if_true, im_ald]; rw [if_pos ha]; try rfl) k
theorem is_laload (h : im_St G dep d R) {a : Nat} {i : Int32} (hd : decode d.2.1 pc = .ok (.laload, 1)) (ha : a < im_n M ∧ (im_k M a).1 = 34 ∧ 0 ≤ i.toInt ∧ i.toInt < (im_k M a).2) (k : R (pc + 1, L, .long (im_l M a i.toNatClampNeg) :: r, M)) : R (pc, L, .int i :: .ref a :: r, M) :=
  ia_one h hd rfl (by simp only [im_step, im_ok, if_true, im_ald]; rw [if_pos ha]; try rfl) k
theorem is_baload (h : im_St G dep d R) {a : Nat} {i : Int32} (hd : decode d.2.1 pc = .ok (.baload, 1)) (ha : a < im_n M ∧ (im_k M a).1 = 32 ∧ 0 ≤ i.toInt ∧ i.toInt < (im_k M a).2) (k : R (pc + 1, L, .int (im_i M a i.toNatClampNeg) :: r, M)) : R (pc, L, .int i :: .ref a :: r, M) :=
  ia_one h hd rfl (by simp only [im_step, im_ok, if_true, im_ba, ha.2.1]; simp only [im_ald]; rw [if_neg (by decide), if_pos ha]; rfl) k
theorem is_zaload (h : im_St G dep d R) {a : Nat} {i : Int32} (hd : decode d.2.1 pc = .ok (.baload, 1)) (ha : a < im_n M ∧ (im_k M a).1 = 36 ∧ 0 ≤ i.toInt ∧ i.toInt < (im_k M a).2) (k : R (pc + 1, L, .int (im_i M a i.toNatClampNeg) :: r, M)) : R (pc, L, .int i :: .ref a :: r, M) :=
  ia_one h hd rfl (by simp only [im_step, im_ok, if_true, im_ba, ha.2.1]; simp only [im_ald]; rw [if_pos ha]; try rfl) k
theorem is_bastore (h : im_St G dep d R) {a : Nat} {i x : Int32} (hd : decode d.2.1 pc = .ok (.bastore, 1)) (ha : a < im_n M ∧ (im_k M a).1 = 32 ∧ 0 ≤ i.toInt ∧ i.toInt < (im_k M a).2) (k : R (pc + 1, L, r, im_setI M a i.toNatClampNeg (vp_nar .byte x))) : R (pc, L, .int x :: .int i :: .ref a :: r, M) :=
  ia_one h hd rfl (by simp only [im_step, im_ok, if_true, im_bb, ha.2.1]; simp only [im_astI]; rw [if_neg (by decide), if_pos ha]) k
theorem is_zastore (h : im_St G dep d R) {a : Nat} {i x : Int32} (hd : decode d.2.1 pc = .ok (.bastore, 1)) (ha : a < im_n M ∧ (im_k M a).1 = 36 ∧ 0 ≤ i.toInt ∧ i.toInt < (im_k M a).2) (k : R (pc + 1, L, r, im_setI M a i.toNatClampNeg (vp_nar .boolean x))) : R (pc, L, .int x :: .int i :: .ref a :: r, M) :=
  ia_one h hd rfl (by simp only [im_step, im_ok, if_true, im_bb, ha.2.1]; simp only [im_astI]; rw [if_pos ha]) k
theorem is_iastore (h : im_St G dep d R) {a : Nat} {i x : Int32} (hd : decode d.2.1 pc = .ok (.iastore, 1)) (ha : a < im_n M ∧ (im_k M a).1 = 33 ∧ 0 ≤ i.toInt ∧ i.toInt < (im_k M a).2) (k : R (pc + 1, L, r, im_setI M a i.toNatClampNeg x)) : R (pc, L, .int x :: .int i :: .ref a :: r, M) :=
  ia_one h hd rfl (by simp only [im_step, im_ok, if_true, im_astI]; rw [if_pos ha]; try rfl) k
theorem is_sastore (h : im_St G dep d R) {a : Nat} {i x : Int32} (hd : decode d.2.1 pc = .ok (.sastore, 1)) (ha : a < im_n M ∧ (im_k M a).1 = 35 ∧ 0 ≤ i.toInt ∧ i.toInt < (im_k M a).2) (k : R (pc + 1, L, r, im_setI M a i.toNatClampNeg (vp_nar .short x))) : R (pc, L, .int x :: .int i :: .ref a :: r, M) :=
  ia_one h hd rfl (by simp only [im_step, im_ok, if_true, im_astI]; rw [if_pos ha]) k
theorem is_lastore (h : im_St G dep d R) {a : Nat} {i : Int32} {x : Int64} (hd : decode d.2.1 pc = .ok (.lastore, 1)) (ha : a < im_n M ∧ (im_k M a).1 = 34 ∧ 0 ≤ i.toInt ∧ i.toInt < (im_k M a).2) (k : R (pc + 1, L, r, im_setL M a i.toNatClampNeg x)) : R (pc, L, .long x :: .int i :: .ref a :: r, M) :=
  ia_one h hd rfl (by simp only [im_step, im_ok, if_true, im_astL]; rw [if_pos ha]) k
theorem is_alen (h : im_St G dep d R) {a : Nat} (hd : decode d.2.1 pc = .ok (.arraylength, 1)) (ha : a < im_n M ∧ 32 ≤ (im_k M a).1 ∧ (im_k M a).1 < 37) (k : R (pc + 1, L, .int (Int32.ofNat (im_k M a).2) :: r, M)) : R (pc, L, .ref a :: r, M) :=
  ia_one h hd rfl (by simp only [im_step, im_ok, if_true, im_alen]; rw [if_pos ha]) k
theorem is_ldc (h : im_St G dep d R) {k : Nat} {v : Int32} (hd : decode d.2.1 pc = .ok (.ldc k, 2)) (hc : ig_cT G d.2.2.2.2.2.2 k = some (.int v)) (k' : R (pc + 2, L, .int v :: r, M)) : R (pc, L, r, M) :=
  ia_one h hd rfl (by simp [im_step, im_ok, hc, im_push]) k'
theorem is_ldc_w (h : im_St G dep d R) {k : Nat} {v : Int32} (hd : decode d.2.1 pc = .ok (.ldc_w k, 3)) (hc : ig_cT G d.2.2.2.2.2.2 k = some (.int v)) (k' : R (pc + 3, L, .int v :: r, M)) : R (pc, L, r, M) :=
  ia_one h hd rfl (by simp [im_step, im_ok, hc, im_push]) k'
theorem is_ldc2_w (h : im_St G dep d R) {k : Nat} {v : Int64} (hd : decode d.2.1 pc = .ok (.ldc2_w k, 3)) (hc : ig_cT G d.2.2.2.2.2.2 k = some (.long v)) (k' : R (pc + 3, L, .long v :: r, M)) : R (pc, L, r, M) :=
  ia_one h hd rfl (by simp [im_step, im_ok, hc, im_push]) k'
theorem is_getstatic (h : im_St G dep d R) {k : Nat} {v : Value} (hd : decode d.2.1 pc = .ok (.getstatic k, 3)) (hc : ig_gT G d.2.2.2.2.2.2 k = some v) (k' : R (pc + 3, L, v :: r, M)) : R (pc, L, r, M) :=
  ia_oneX h hd rfl rfl (by simp [im_stepX, im_ok, hc, im_push]) k'
end IAR

