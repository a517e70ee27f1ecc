/-! ARRAYS THAT ARE WRITTEN ELEMENT BY ELEMENT IN THE CODE -/
def ini_push (c : ByteArray) (cT : Nat → Option Value) (pc : Nat) : Option (Int32 × Nat) := match decode c pc with
  | .ok (.iconst n, 1) => some (Int32.ofInt n, pc + 1)
  | .ok (.bipush n, 2) => some ((Int8.ofInt n).toInt32, pc + 2)
  | .ok (.sipush n, 3) => some ((Int16.ofInt n).toInt32, pc + 3)
  | .ok (.ldc k, 2) => match cT k with
    | some (.int v) => some (v, pc + 2)
    | _ => none
  | .ok (.ldc_w k, 3) => match cT k with
    | some (.int v) => some (v, pc + 3)
    | _ => none
  | _ => none
def ini_run (c : ByteArray) (cT : Nat → Option Value) : List Int32 → Nat → Nat → Option Nat
  | [], pc, _ => some pc
  | v :: vs, pc, idx => match decode c pc with
    | .ok (.dup, 1) => match ini_push c cT (pc + 1) with
      | some (i, p1) => match ini_push c cT p1 with
        | some (w, p2) => match decode c p2 with
          | .ok (.iastore, 1) => if i = nI idx ∧ w = v then ini_run c cT vs (p2 + 1) (idx + 1) else none
          | _ => none
        | none => none
      | none => none
    | _ => none
/-- an array filled from a place on -/
def im_fl (f : Nat → Nat → Int32) (a idx : Nat) (vs : List Int32) : Nat → Nat → Int32 := fun b j => if b = a ∧ idx ≤ j ∧ j < idx + vs.length then vs.getD (j - idx) 0 else f b j
def im_fill (M : im_M) (a idx : Nat) (vs : List Int32) : im_M := (im_n M, im_x M, im_k M, im_fl (im_i M) a idx vs, im_l M, im_r M)
theorem im_fill_nil {M : im_M} {a idx : Nat} : im_fill M a idx [] = M := by
  unfold im_fill
  have : im_fl (im_i M) a idx [] = im_i M := by
    funext b j
    unfold im_fl
    rw [if_neg]
    rintro ⟨-, h1, h2⟩
    simp at h2
    omega
  rw [this]
  rfl
theorem im_fill_cons {M : im_M} {a idx : Nat} {v : Int32} {vs : List Int32} : im_fill (im_setI M a idx v) a (idx + 1) vs = im_fill M a idx (v :: vs) := by
  unfold im_fill
  have : im_fl (im_i (im_setI M a idx v)) a (idx + 1) vs = im_fl (im_i M) a idx (v :: vs) := by
    funext b j
    show im_fl (im_u2 (im_i M) a idx v) a (idx + 1) vs b j = _
    unfold im_fl im_u2
    by_cases hb : b = a
    · subst hb
      by_cases hj : j = idx
      · subst hj
        rw [if_neg (by omega), if_pos rfl, if_pos rfl, if_pos ⟨rfl, Nat.le_refl _, by simp⟩]
        simp
      · by_cases h1 : idx + 1 ≤ j ∧ j < idx + 1 + vs.length
        · rw [if_pos ⟨rfl, h1.1, h1.2⟩, if_pos ⟨rfl, by omega, by simp; omega⟩]
          have e : j - idx = (j - (idx + 1)) + 1 := by omega
          rw [e]
          simp
        · rw [if_neg (fun q => h1 q.2), if_pos rfl, if_neg hj, if_neg]
          rintro ⟨-, h2, h3⟩
          simp at h3
          omega
    · rw [if_neg (fun q => hb q.1), if_neg hb, if_neg (fun q => hb q.1)]
  rw [this]
  rfl
section INI
variable {G : im_G} {dep : Nat} {d : im_J} {R : im_F → Prop} {L : List (Nat × Value)}
theorem ini_push_ok (h : im_St G dep d R) {pc p : Nat} {v : Int32} {r : List Value} {M : im_M} (hp : ini_push d.2.1 (ig_cT G d.2.2.2.2.2.2) pc = some (v, p)) (k : R (p, L, .int v :: r, M)) : R (pc, L, r, M) := by
  unfold ini_push at hp
  cases hd : decode d.2.1 pc with
  | error q => rw [hd] at hp; cases hp
  | ok q =>
    obtain ⟨i, len⟩ := q
    rw [hd] at hp
    split at hp
    · rename_i e
      cases hp
      cases e
      exact is_iconst h hd k
    · rename_i e
      cases hp
      cases e
      exact is_bipush h hd k
    · rename_i e
      cases hp
      cases e
      exact is_sipush h hd k
    · rename_i e
      cases e
      split at hp
      · rename_i hc
        cases hp
        exact is_ldc h hd hc k
      · cases hp
    · rename_i e
      cases e
      split at hp
      · rename_i hc
        cases hp
        exact is_ldc_w h hd hc k
      · cases hp
    · cases hp
theorem ini_sound (h : im_St G dep d R) {a : Nat} {r : List Value} : ∀ (vs : List Int32) (pc idx e : Nat) (M : im_M), a < im_n M ∧ (im_k M a).1 = 33 → idx + vs.length ≤ (im_k M a).2 → (im_k M a).2 < 2 ^ 31 → ini_run d.2.1 (ig_cT G d.2.2.2.2.2.2) vs pc idx = some e → R (e, L, .ref a :: r, im_fill M a idx vs) → R (pc, L, .ref a :: r, M) := by
  intro vs
  induction vs with
  | nil =>
    intro pc idx e M ha hl hs hi k
    cases hi
    rw [im_fill_nil] at k
    exact k
  | cons v vs ih =>
    intro pc idx e M ha hl hs hi k
    unfold ini_run at hi
    split at hi
    · rename_i hd
      split at hi
      · rename_i i p1 hp1
        split at hi
        · rename_i w p2 hp2
          split at hi
          · rename_i hd2
            split at hi
            · rename_i hc
              obtain ⟨rfl, rfl⟩ := hc
              have hlen : idx < (im_k M a).2 := by
                have : (w :: vs).length = vs.length + 1 := rfl
                omega
              refine is_dup h hd rfl ?_
              refine ini_push_ok h hp1 ?_
              refine ini_push_ok h hp2 ?_
              refine is_iastore h hd2 ⟨ha.1, ha.2, by rw [nI_toInt (by omega)]; omega, by rw [nI_toInt (by omega)]; omega⟩ ?_
              rw [nI_clamp (by omega)]
              refine ih (p2 + 1) (idx + 1) e (im_setI M a idx w) ha (by
                have : (w :: vs).length = vs.length + 1 := rfl
                show idx + 1 + vs.length ≤ (im_k M a).2
                omega) hs hi ?_
              rw [im_fill_cons]
              exact k
            · cases hi
          · cases hi
        · cases hi
      · cases hi
    · cases hi
end INI
