/-! SIMPLE STEPS MAKE NO CELL -/
def im_same (F F' : im_F) : Prop := im_n F'.2.2.2 = im_n F.2.2.2 ∧ im_k F'.2.2.2 = im_k F.2.2.2
theorem im_same_ok {d len : Nat} {x : Option im_F} {F F' : im_F} (hx : x = some F' → im_same F F') (h : im_ok d len x = some F') : im_same F F' := hx (im_ok_some h).2
theorem im_q_b32 {f : Int32 → Int32 → Int32} {F F' : im_F} (h : im_b32 f F = some F') : im_same F F' := by
  obtain ⟨pc, L, st, M⟩ := F
  unfold im_b32 at h
  split at h
  · rename_i e1
    cases e1
    cases h; exact ⟨rfl, rfl⟩
  · cases h
theorem im_q_b64 {f : Int64 → Int64 → Int64} {F F' : im_F} (h : im_b64 f F = some F') : im_same F F' := by
  obtain ⟨pc, L, st, M⟩ := F
  unfold im_b64 at h
  split at h
  · rename_i e1
    cases e1
    cases h; exact ⟨rfl, rfl⟩
  · cases h
theorem im_q_s64 {f : Int64 → Int32 → Int64} {F F' : im_F} (h : im_s64 f F = some F') : im_same F F' := by
  obtain ⟨pc, L, st, M⟩ := F
  unfold im_s64 at h
  split at h
  · rename_i e1
    cases e1
    cases h; exact ⟨rfl, rfl⟩
  · cases h
theorem im_q_c32 {f : Int32 → Int32} {F F' : im_F} (h : im_c32 f F = some F') : im_same F F' := by
  obtain ⟨pc, L, st, M⟩ := F
  unfold im_c32 at h
  split at h
  · rename_i e1
    cases e1
    cases h; exact ⟨rfl, rfl⟩
  · cases h
theorem im_q_cl  {F F' : im_F} (h : im_cl F = some F') : im_same F F' := by
  obtain ⟨pc, L, st, M⟩ := F
  unfold im_cl at h
  split at h
  · rename_i e1
    cases e1
    cases h; exact ⟨rfl, rfl⟩
  · cases h
theorem im_q_ci  {F F' : im_F} (h : im_ci F = some F') : im_same F F' := by
  obtain ⟨pc, L, st, M⟩ := F
  unfold im_ci at h
  split at h
  · rename_i e1
    cases e1
    cases h; exact ⟨rfl, rfl⟩
  · cases h
theorem im_q_n64  {F F' : im_F} (h : im_n64 F = some F') : im_same F F' := by
  obtain ⟨pc, L, st, M⟩ := F
  unfold im_n64 at h
  split at h
  · rename_i e1
    cases e1
    cases h; exact ⟨rfl, rfl⟩
  · cases h
theorem im_q_lcmp  {F F' : im_F} (h : im_lcmp F = some F') : im_same F F' := by
  obtain ⟨pc, L, st, M⟩ := F
  unfold im_lcmp at h
  split at h
  · rename_i e1
    cases e1
    cases h; exact ⟨rfl, rfl⟩
  · cases h
theorem im_q_d32 {f : Int32 → Int32 → Int32} {F F' : im_F} (h : im_d32 f F = some F') : im_same F F' := by
  obtain ⟨pc, L, st, M⟩ := F
  unfold im_d32 at h
  split at h
  · rename_i e1
    cases e1
    split at h
    · cases h
    · cases h; exact ⟨rfl, rfl⟩
  · cases h
theorem im_q_d64 {f : Int64 → Int64 → Int64} {F F' : im_F} (h : im_d64 f F = some F') : im_same F F' := by
  obtain ⟨pc, L, st, M⟩ := F
  unfold im_d64 at h
  split at h
  · rename_i e1
    cases e1
    split at h
    · cases h
    · cases h; exact ⟨rfl, rfl⟩
  · cases h
theorem im_q_load {i d k : Nat} {F F' : im_F} (h : im_load i d k F = some F') : im_same F F' := by
  unfold im_load at h
  cases hv : im_lk F.2.1 i with
  | none => rw [hv] at h; cases h
  | some v =>
    rw [hv] at h
    cases v <;> simp only at h <;> (split at h <;> first | (cases h; done) | (cases h; exact ⟨rfl, rfl⟩))
theorem im_q_store {nL i d k : Nat} {F F' : im_F} (h : im_store nL i d k F = some F') : im_same F F' := by
  obtain ⟨pc, L, st, M⟩ := F
  unfold im_store at h
  split at h
  · rename_i e1
    cases e1
    split at h
    · split at h
      · cases h; exact ⟨rfl, rfl⟩
      · cases h
    · split at h
      · cases h; exact ⟨rfl, rfl⟩
      · cases h
    · split at h
      · cases h; exact ⟨rfl, rfl⟩
      · cases h
    · cases h
  · cases h
theorem im_q_iinc {nL i : Nat} {n : Int} {F F' : im_F} (h : im_iinc nL i n F = some F') : im_same F F' := by
  unfold im_iinc at h
  split at h
  · split at h
    · cases h; exact ⟨rfl, rfl⟩
    · cases h
  · cases h
theorem im_q_jmp {off : Int} {F F' : im_F} (h : im_jmp F.1 off F.2 = some F') : im_same F F' := by
  obtain ⟨-, rfl⟩ := im_jmp_some h
  exact ⟨rfl, rfl⟩
theorem im_q_br1 {f : Int32 → Bool} {off : Int} {F F' : im_F} (h : im_br1 f off F = some F') : im_same F F' := by
  obtain ⟨pc, L, st, M⟩ := F
  unfold im_br1 at h
  split at h
  · rename_i e1
    cases e1
    split at h
    · cases h
      refine ⟨?_, ?_⟩ <;> (split <;> rfl)
    · cases h
  · cases h
theorem im_q_br2 {f : Int32 → Int32 → Bool} {off : Int} {F F' : im_F} (h : im_br2 f off F = some F') : im_same F F' := by
  obtain ⟨pc, L, st, M⟩ := F
  unfold im_br2 at h
  split at h
  · rename_i e1
    cases e1
    split at h
    · cases h
      refine ⟨?_, ?_⟩ <;> (split <;> rfl)
    · cases h
  · cases h
theorem im_q_tsw {dflt lo hi : Int} {offs : Array Int} {F F' : im_F} (h : im_tsw dflt lo hi offs F = some F') : im_same F F' := by
  obtain ⟨pc, L, st, M⟩ := F
  unfold im_tsw at h
  split at h
  · rename_i e1
    cases e1
    split at h
    · obtain ⟨-, rfl⟩ := im_jmp_some h; exact ⟨rfl, rfl⟩
    · split at h
      · obtain ⟨-, rfl⟩ := im_jmp_some h; exact ⟨rfl, rfl⟩
      · cases h
  · cases h
theorem im_q_lsw {dflt : Int} {ps : Array (Int × Int)} {F F' : im_F} (h : im_lsw dflt ps F = some F') : im_same F F' := by
  obtain ⟨pc, L, st, M⟩ := F
  unfold im_lsw at h
  split at h
  · rename_i e1
    cases e1
    split at h
    · obtain ⟨-, rfl⟩ := im_jmp_some h; exact ⟨rfl, rfl⟩
    · cases h
  · cases h
theorem im_q_dup  {F F' : im_F} (h : im_dup F = some F') : im_same F F' := by
  obtain ⟨pc, L, st, M⟩ := F
  unfold im_dup at h
  split at h
  · rename_i e1
    cases e1
    split at h
    · cases h; exact ⟨rfl, rfl⟩
    · cases h
  · cases h
theorem im_q_pop  {F F' : im_F} (h : im_pop F = some F') : im_same F F' := by
  obtain ⟨pc, L, st, M⟩ := F
  unfold im_pop at h
  split at h
  · rename_i e1
    cases e1
    split at h
    · cases h; exact ⟨rfl, rfl⟩
    · cases h
  · cases h
theorem im_q_dup2  {F F' : im_F} (h : im_dup2 F = some F') : im_same F F' := by
  obtain ⟨pc, L, st, M⟩ := F
  unfold im_dup2 at h
  split at h
  · rename_i e1
    cases e1
    split at h
    · cases h; exact ⟨rfl, rfl⟩
    · split at h
      · cases h; exact ⟨rfl, rfl⟩
      · cases h
  · cases h
theorem im_q_getf {ty : Nat → Nat → FieldType} {ci k : Nat} {F F' : im_F} (h : im_getf ty ci k F = some F') : im_same F F' := by
  obtain ⟨pc, L, st, M⟩ := F
  unfold im_getf at h
  split at h
  · rename_i e1
    cases e1
    split at h
    · split at h <;> first | (cases h; done) | (cases h; exact ⟨rfl, rfl⟩)
    · cases h
  · cases h
theorem im_q_putf {ty : Nat → Nat → FieldType} {ci k : Nat} {F F' : im_F} (h : im_putf ty ci k F = some F') : im_same F F' := by
  obtain ⟨pc, L, st, M⟩ := F
  unfold im_putf at h
  split at h
  · rename_i e1
    cases e1
    split at h
    · split at h
      · cases h; exact ⟨rfl, rfl⟩
      · cases h; exact ⟨rfl, rfl⟩
      · cases h; exact ⟨rfl, rfl⟩
      · cases h; exact ⟨rfl, rfl⟩
      · split at h
        · cases h; exact ⟨rfl, rfl⟩
        · cases h
      · cases h
    · cases h
  · cases h
theorem im_q_ald {kd : Nat} {F F' : im_F} (h : im_ald kd F = some F') : im_same F F' := by
  obtain ⟨pc, L, st, M⟩ := F
  unfold im_ald at h
  split at h
  · rename_i e1
    cases e1
    split at h
    · split at h
      · cases h; exact ⟨rfl, rfl⟩
      · cases h; exact ⟨rfl, rfl⟩
    · cases h
  · cases h
theorem im_q_astI {kd : Nat} {ft : FieldType} {F F' : im_F} (h : im_astI kd ft F = some F') : im_same F F' := by
  obtain ⟨pc, L, st, M⟩ := F
  unfold im_astI at h
  split at h
  · rename_i e1
    cases e1
    split at h
    · cases h; exact ⟨rfl, rfl⟩
    · cases h
  · cases h
theorem im_q_astL  {F F' : im_F} (h : im_astL F = some F') : im_same F F' := by
  obtain ⟨pc, L, st, M⟩ := F
  unfold im_astL at h
  split at h
  · rename_i e1
    cases e1
    split at h
    · cases h; exact ⟨rfl, rfl⟩
    · cases h
  · cases h
theorem im_q_alen  {F F' : im_F} (h : im_alen F = some F') : im_same F F' := by
  obtain ⟨pc, L, st, M⟩ := F
  unfold im_alen at h
  split at h
  · rename_i e1
    cases e1
    split at h
    · cases h; exact ⟨rfl, rfl⟩
    · cases h
  · cases h
theorem im_q_xald {xk : Nat → Nat × Nat} {xi : Nat → Nat → Int32} {kd : Nat} {F F' : im_F} (h : im_xald xk xi kd F = some F') : im_same F F' := by
  obtain ⟨pc, L, st, M⟩ := F
  unfold im_xald at h
  split at h
  · rename_i e1
    cases e1
    split at h
    · cases h; exact ⟨rfl, rfl⟩
    · cases h
  · cases h
theorem im_q_xlen {xk : Nat → Nat × Nat} {F F' : im_F} (h : im_xlen xk F = some F') : im_same F F' := by
  obtain ⟨pc, L, st, M⟩ := F
  unfold im_xlen at h
  split at h
  · rename_i e1
    cases e1
    split at h
    · cases h; exact ⟨rfl, rfl⟩
    · cases h
  · cases h
theorem im_q_xgetf {xk : Nat → Nat × Nat} {b : Bool} {F F' : im_F} (h : im_xgetf xk b F = some F') : im_same F F' := by
  obtain ⟨pc, L, st, M⟩ := F
  unfold im_xgetf at h
  split at h
  · rename_i e1
    cases e1
    split at h
    · cases h; exact ⟨rfl, rfl⟩
    · cases h
  · cases h
theorem im_q_acopy  {F F' : im_F} (h : im_acopy F = some F') : im_same F F' := by
  obtain ⟨pc, L, st, M⟩ := F
  unfold im_acopy at h
  split at h
  · rename_i e1
    cases e1
    split at h
    · cases h; exact ⟨rfl, rfl⟩
    · cases h
  · cases h
theorem im_q_oinit  {F F' : im_F} (h : im_oinit F = some F') : im_same F F' := by
  obtain ⟨pc, L, st, M⟩ := F
  unfold im_oinit at h
  split at h
  · rename_i e1
    cases e1
    split at h
    · cases h; exact ⟨rfl, rfl⟩
    · cases h
  · cases h
theorem im_same_rfl {F : im_F} {d : Nat} {v : Value} {F' : im_F} (h : some (im_push F d v) = some F') : im_same F F' := by
  cases h
  exact ⟨rfl, rfl⟩
theorem im_q_step {cl : List vw_C} {ty : Nat → Nat → FieldType} {fT : Nat → Nat → Option (Nat × Nat)} {cT : Nat → Nat → Option Value} {own : String} {ow : Nat} {ini : Bool} {nL : Nat} {i : Instr} {len : Nat} {F F' : im_F} (h : im_step cl ty fT cT own ow ini nL i len F = some F') : im_same F F' := by
  cases i with
  | iconst n => exact im_same_ok im_same_rfl h
  | lconst n => exact im_same_ok im_same_rfl h
  | bipush n => exact im_same_ok im_same_rfl h
  | sipush n => exact im_same_ok im_same_rfl h
  | iload_n k => exact im_same_ok im_q_load h
  | iload k => exact im_same_ok im_q_load h
  | lload_n k => exact im_same_ok im_q_load h
  | lload k => exact im_same_ok im_q_load h
  | aload_n k => exact im_same_ok im_q_load h
  | aload k => exact im_same_ok im_q_load h
  | istore_n k => exact im_same_ok im_q_store h
  | istore k => exact im_same_ok im_q_store h
  | lstore_n k => exact im_same_ok im_q_store h
  | lstore k => exact im_same_ok im_q_store h
  | astore_n k => exact im_same_ok im_q_store h
  | astore k => exact im_same_ok im_q_store h
  | iinc k n => exact im_same_ok im_q_iinc h
  | iadd => exact im_same_ok im_q_b32 h
  | isub => exact im_same_ok im_q_b32 h
  | imul => exact im_same_ok im_q_b32 h
  | iand => exact im_same_ok im_q_b32 h
  | ior => exact im_same_ok im_q_b32 h
  | ixor => exact im_same_ok im_q_b32 h
  | ishl => exact im_same_ok im_q_b32 h
  | ishr => exact im_same_ok im_q_b32 h
  | iushr => exact im_same_ok im_q_b32 h
  | idiv => exact im_same_ok im_q_d32 h
  | irem => exact im_same_ok im_q_d32 h
  | ineg => exact im_same_ok im_q_c32 h
  | i2b => exact im_same_ok im_q_c32 h
  | i2s => exact im_same_ok im_q_c32 h
  | i2c => exact im_same_ok im_q_c32 h
  | i2l => exact im_same_ok im_q_cl h
  | l2i => exact im_same_ok im_q_ci h
  | ladd => exact im_same_ok im_q_b64 h
  | lsub => exact im_same_ok im_q_b64 h
  | lmul => exact im_same_ok im_q_b64 h
  | land => exact im_same_ok im_q_b64 h
  | lor => exact im_same_ok im_q_b64 h
  | lxor => exact im_same_ok im_q_b64 h
  | ldiv => exact im_same_ok im_q_d64 h
  | lrem => exact im_same_ok im_q_d64 h
  | lneg => exact im_same_ok im_q_n64 h
  | lshl => exact im_same_ok im_q_s64 h
  | lshr => exact im_same_ok im_q_s64 h
  | lushr => exact im_same_ok im_q_s64 h
  | lcmp => exact im_same_ok im_q_lcmp h
  | dup => exact im_same_ok im_q_dup h
  | dup2 => exact im_same_ok im_q_dup2 h
  | pop => exact im_same_ok im_q_pop h
  | goto off => exact im_same_ok im_q_jmp h
  | ifCond cond off => cases cond <;> exact im_same_ok im_q_br1 h
  | if_icmp cond off => cases cond <;> exact im_same_ok im_q_br2 h
  | tableswitch dflt lo hi offs => exact im_q_tsw h
  | lookupswitch dflt ps => exact im_q_lsw h
  | getfield k =>
    refine im_same_ok (fun h => ?_) h
    split at h
    · exact im_q_getf h
    · cases h
  | putfield k =>
    refine im_same_ok (fun h => ?_) h
    split at h
    · split at h
      · exact im_q_putf h
      · cases h
    · cases h
  | baload =>
    refine im_same_ok (fun h => ?_) h
    split at h <;> exact im_q_ald h
  | bastore =>
    refine im_same_ok (fun h => ?_) h
    split at h <;> exact im_q_astI h
  | iaload => exact im_same_ok im_q_ald h
  | laload => exact im_same_ok im_q_ald h
  | saload => exact im_same_ok im_q_ald h
  | iastore => exact im_same_ok im_q_astI h
  | sastore => exact im_same_ok im_q_astI h
  | lastore => exact im_same_ok im_q_astL h
  | arraylength => exact im_same_ok im_q_alen h
  | ldc k =>
    refine im_same_ok (fun h => ?_) h
    split at h
    · exact im_same_rfl h
    · cases h
  | ldc_w k =>
    refine im_same_ok (fun h => ?_) h
    split at h
    · exact im_same_rfl h
    · cases h
  | ldc2_w k =>
    refine im_same_ok (fun h => ?_) h
    split at h
    · exact im_same_rfl h
    · cases h
  | _ => cases h
theorem im_q_stepX {gT : Nat → Nat → Option Value} {xk : Nat → Nat × Nat} {xi : Nat → Nat → Int32} {sT : Nat → Nat → Option Nat} {vT : Nat → Nat → Option Bool} {ow : Nat} {i : Instr} {len : Nat} {F F' : im_F} (h : im_stepX gT xk xi sT vT ow i len F = some F') : im_same F F' := by
  cases i with
  | getstatic k =>
    refine im_same_ok (fun h => ?_) h
    split at h
    · exact im_same_rfl h
    · cases h
  | ldc k =>
    refine im_same_ok (fun h => ?_) h
    split at h
    · exact im_same_rfl h
    · cases h
  | iaload => exact im_same_ok im_q_xald h
  | baload => exact im_same_ok im_q_xald h
  | arraylength => exact im_same_ok im_q_xlen h
  | getfield k =>
    refine im_same_ok (fun h => ?_) h
    split at h
    · exact im_q_xgetf h
    · cases h
  | _ => cases h
