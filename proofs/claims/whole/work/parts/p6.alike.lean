/-! THE FRAMES ARE ALIKE -/
def EQg (n : Nat) (E : Nat → Nat → Prop) (s t : GS) : Prop := ∀ x y, x < n → y < n → s.2 (177 * y + x) = t.2 (177 * y + x) ∧ (¬ E x y → s.1 (177 * y + x) = t.1 (177 * y + x))
theorem fx_at {n x y : Nat} {a b : Int} {d : Bool} {s : GS} (hn : n ≤ 177) (hx : x < n) (hy : y < n) : ((fx n a b d s).1 (177 * y + x) = if a = (x : Int) ∧ b = (y : Int) then (if d = true then 1 else 0) else s.1 (177 * y + x)) ∧ (fx n a b d s).2 (177 * y + x) = if a = (x : Int) ∧ b = (y : Int) then 1 else s.2 (177 * y + x) := by
  unfold fx
  by_cases c : 0 ≤ a ∧ a < (n : Int) ∧ 0 ≤ b ∧ b < (n : Int)
  · rw [if_pos c]
    by_cases e : a = (x : Int) ∧ b = (y : Int)
    · have k : 177 * b.toNat + a.toNat = 177 * y + x := by omega
      rw [if_pos e, if_pos e, k]
      exact ⟨up_hit, up_hit⟩
    · have k : 177 * y + x ≠ 177 * b.toNat + a.toNat := by omega
      rw [if_neg e, if_neg e]
      exact ⟨up_sk k, up_sk k⟩
  · rw [if_neg c]
    have e : ¬ (a = (x : Int) ∧ b = (y : Int)) := by omega
    rw [if_neg e, if_neg e]
    exact ⟨rfl, rfl⟩
theorem fx_eq {n : Nat} {a b : Int} {d : Bool} {s t : GS} {E : Nat → Nat → Prop} (hn : n ≤ 177) (h : EQg n E s t) : EQg n E (fx n a b d s) (fx n a b d t) := fun x y hx hy => by
  obtain ⟨s1, s2⟩ := fx_at (a := a) (b := b) (d := d) (s := s) hn hx hy
  obtain ⟨t1, t2⟩ := fx_at (a := a) (b := b) (d := d) (s := t) hn hx hy
  obtain ⟨h1, h2⟩ := h x y hx hy
  rw [s1, s2, t1, t2]
  by_cases e : a = (x : Int) ∧ b = (y : Int)
  · rw [if_pos e, if_pos e, if_pos e, if_pos e]
    exact ⟨rfl, fun _ => rfl⟩
  · rw [if_neg e, if_neg e, if_neg e, if_neg e]
    exact ⟨h1, h2⟩
theorem fx_ne {n : Nat} {a b : Int} {d d' : Bool} {s t : GS} {E : Nat → Nat → Prop} (hn : n ≤ 177) (hE : ∀ x y : Nat, a = (x : Int) → b = (y : Int) → E x y) (h : EQg n E s t) : EQg n E (fx n a b d s) (fx n a b d' t) := fun x y hx hy => by
  obtain ⟨s1, s2⟩ := fx_at (a := a) (b := b) (d := d) (s := s) hn hx hy
  obtain ⟨t1, t2⟩ := fx_at (a := a) (b := b) (d := d') (s := t) hn hx hy
  obtain ⟨h1, h2⟩ := h x y hx hy
  rw [s1, s2, t1, t2]
  by_cases e : a = (x : Int) ∧ b = (y : Int)
  · rw [if_pos e, if_pos e, if_pos e, if_pos e]
    exact ⟨rfl, fun z => absurd (hE x y e.1 e.2) z⟩
  · rw [if_neg e, if_neg e, if_neg e, if_neg e]
    exact ⟨h1, h2⟩
theorem it_eq {n k : Nat} {s t : GS} {E : Nat → Nat → Prop} {f g : Nat → GS → GS} (hf : ∀ i a b, i < k → EQg n E a b → EQg n E (f i a) (g i b)) (h : EQg n E s t) : EQg n E (itN f s k) (itN g t k) := itN_rel (R := fun _ s t => EQg n E s t) h k hf
theorem sqF_eq {n k li : Nat} {x y : Int} {s t : GS} {E : Nat → Nat → Prop} (hn : n ≤ 177) (h : EQg n E s t) : EQg n E (sqF n x y k li s) (sqF n x y k li t) := it_eq (fun _ _ _ _ q => it_eq (fun _ _ _ _ q => fx_eq hn q) q) h
theorem smF_eq {n v : Nat} {s t : GS} {E : Nat → Nat → Prop} (hn : n ≤ 177) (h : EQg n E s t) : EQg n E (smF n v s) (smF n v t) := it_eq (fun i a b _ q => it_eq (fun j a b _ q => by
  show EQg n E (if _ then a else _) (if _ then b else _)
  split
  · exact q
  · exact sqF_eq hn q) q) h
theorem vsF_eq {n : Nat} {w : Int32} {s t : GS} {E : Nat → Nat → Prop} (hn : n ≤ 177) (h : EQg n E s t) : EQg n E (vsF n w s) (vsF n w t) := it_eq (fun _ _ _ _ q => fx_eq hn (fx_eq hn q)) h
theorem tm_eq {n : Nat} {s t : GS} {E : Nat → Nat → Prop} (hn : n ≤ 177) (h : EQg n E s t) : EQg n E (itN (fun i s => tmS n i s) s n) (itN (fun i s => tmS n i s) t n) := it_eq (fun _ _ _ _ q => fx_eq hn (fx_eq hn q)) h
def isF (n i x y : Nat) : Prop := ∃ j c, i ≤ j ∧ j < 15 ∧ c < 2 ∧ x = fmX n j c ∧ y = fmY n j c
theorem fm_ne {n : Nat} {w w' : Int32} {s t : GS} (hn : n ≤ 177) (h : EQg n (isF n 0) s t) : EQg n (isF n 0) (fmF n w s) (fmF n w' t) := it_eq (fun i _ _ hi q => fx_ne hn (fun x y hx hy => ⟨i, 1, Nat.zero_le _, hi, by omega, by omega, by omega⟩) (fx_ne hn (fun x y hx hy => ⟨i, 0, Nat.zero_le _, hi, by omega, by omega, by omega⟩) q)) h
theorem fm_all {n : Nat} {w : Int32} {s t : GS} (hn : n ≤ 177) (h : EQg n (isF n 0) s t) : EQg n (fun _ _ => False) (fmF n w s) (fmF n w t) := by
  have k := itN_rel (R := fun i s t => EQg n (isF n i) s t) (f := fun i s => fmS n w i s) (g := fun i s => fmS n w i s) h 15 (fun i a b hi q x y hx hy => by
    have q2 : EQg n (isF n i) (fmS n w i a) (fmS n w i b) := fx_eq hn (fx_eq hn q)
    obtain ⟨h1, h2⟩ := q2 x y hx hy
    refine ⟨h1, fun z => ?_⟩
    by_cases e : ∃ c, c < 2 ∧ x = fmX n i c ∧ y = fmY n i c
    · obtain ⟨c, hc, ex, ey⟩ := e
      show (fx n _ _ (ib w i) (fx n _ _ (ib w i) a)).1 (177 * y + x) = (fx n _ _ (ib w i) (fx n _ _ (ib w i) b)).1 (177 * y + x)
      rw [(fx_at hn hx hy).1, (fx_at hn hx hy).1, (fx_at hn hx hy).1, (fx_at hn hx hy).1]
      have d : c = 0 ∨ c = 1 := by omega
      by_cases u1 : ((fmX n i 1 : Nat) : Int) = (x : Int) ∧ ((fmY n i 1 : Nat) : Int) = (y : Int)
      · rw [if_pos u1, if_pos u1]
      · rw [if_neg u1, if_neg u1]
        rcases d with rfl | rfl
        · have u0 : ((fmX n i 0 : Nat) : Int) = (x : Int) ∧ ((fmY n i 0 : Nat) : Int) = (y : Int) := ⟨by omega, by omega⟩
          rw [if_pos u0, if_pos u0]
        · exact absurd ⟨by omega, by omega⟩ u1
    · refine h2 ?_
      rintro ⟨j, c, j1, j2, j3, j4, j5⟩
      by_cases ej : j = i
      · subst ej
        exact e ⟨c, j3, j4, j5⟩
      · exact z ⟨j, c, by omega, j2, j3, j4, j5⟩)
  intro x y hx hy
  obtain ⟨h1, h2⟩ := k x y hx hy
  refine ⟨h1, fun _ => h2 ?_⟩
  rintro ⟨j, c, j1, j2, _⟩
  omega
theorem frm_eq {n v : Nat} {w w' : Int32} {s t : GS} (hn : n ≤ 177) (h : EQg n (fun _ _ => False) s t) : EQg n (isF n 0) (frmG n v w s) (frmG n v w' t) := by
  have h0 : EQg n (isF n 0) s t := fun x y hx hy => ⟨(h x y hx hy).1, fun _ => (h x y hx hy).2 (fun z => z)⟩
  have hA : EQg n (isF n 0) (frmA n s) (frmA n t) := sqF_eq hn (sqF_eq hn (sqF_eq hn (tm_eq hn h0)))
  have hB : EQg n (isF n 0) (frmB n v (frmA n s)) (frmB n v (frmA n t)) := by
    unfold frmB
    split
    · exact hA
    · exact smF_eq hn hA
  have hD : EQg n (isF n 0) (frmD n w (frmB n v (frmA n s))) (frmD n w' (frmB n v (frmA n t))) := fx_eq hn (fm_ne hn hB)
  unfold frmG frmE
  split
  · exact hD
  · exact vsF_eq hn hD
/-- what stays true while modules are fixed -/
def okG (n : Nat) (s : GS) : Prop := ∀ x y, x < n → y < n → (s.1 (177 * y + x) = 0 ∨ s.1 (177 * y + x) = 1) ∧ (s.2 (177 * y + x) = 0 ∨ s.2 (177 * y + x) = 1)
def fxd (n x y : Nat) (s : GS) : Prop := s.2 (177 * y + x) = 1
theorem fx_ok {n : Nat} {a b : Int} {d : Bool} {s : GS} (hn : n ≤ 177) (h : okG n s) : okG n (fx n a b d s) := fun x y hx hy => by
  obtain ⟨s1, s2⟩ := fx_at (a := a) (b := b) (d := d) (s := s) hn hx hy
  rw [s1, s2]
  obtain ⟨h1, h2⟩ := h x y hx hy
  constructor
  · split
    · split
      · exact Or.inr rfl
      · exact Or.inl rfl
    · exact h1
  · split
    · exact Or.inr rfl
    · exact h2
theorem fx_fd {n x y : Nat} {a b : Int} {d : Bool} {s : GS} (hn : n ≤ 177) (hx : x < n) (hy : y < n) (h : fxd n x y s) : fxd n x y (fx n a b d s) := by
  have s2 := (fx_at (a := a) (b := b) (d := d) (s := s) hn hx hy).2
  unfold fxd at h ⊢
  rw [s2]
  split
  · rfl
  · exact h
/-- a property that fixing keeps is kept by all -/
def kpG (n : Nat) (P : GS → Prop) : Prop := ∀ a b d s, P s → P (fx n a b d s)
theorem it_kp {n k : Nat} {P : GS → Prop} {s : GS} {f : Nat → GS → GS} (hf : ∀ i a, P a → P (f i a)) (h : P s) : P (itN f s k) := itN_inv (R := fun _ s => P s) h k (fun i a _ q => hf i a q)
theorem sqF_kp {n k li : Nat} {x y : Int} {P : GS → Prop} {s : GS} (hk : kpG n P) (h : P s) : P (sqF n x y k li s) := it_kp (n := n) (fun _ _ q => it_kp (n := n) (fun _ _ q => hk _ _ _ _ q) q) h
theorem smF_kp {n v : Nat} {P : GS → Prop} {s : GS} (hk : kpG n P) (h : P s) : P (smF n v s) := it_kp (n := n) (fun _ _ q => it_kp (n := n) (fun _ a q => by
  show P (if _ then a else _)
  split
  · exact q
  · exact sqF_kp hk q) q) h
theorem fmF_kp {n : Nat} {w : Int32} {P : GS → Prop} {s : GS} (hk : kpG n P) (h : P s) : P (fmF n w s) := it_kp (n := n) (fun _ _ q => hk _ _ _ _ (hk _ _ _ _ q)) h
theorem frm_kp {n v : Nat} {w : Int32} {P : GS → Prop} {s : GS} (hk : kpG n P) (h : P (itN (fun i s => tmS n i s) s n)) : P (frmG n v w s) := by
  have hA : P (frmA n s) := sqF_kp hk (sqF_kp hk (sqF_kp hk h))
  have hB : P (frmB n v (frmA n s)) := by
    unfold frmB
    split
    · exact hA
    · exact smF_kp hk hA
  have hD : P (frmD n w (frmB n v (frmA n s))) := hk _ _ _ _ (fmF_kp hk hB)
  unfold frmG frmE
  split
  · exact hD
  · exact it_kp (n := n) (fun _ _ q => hk _ _ _ _ (hk _ _ _ _ q)) hD
theorem frm_ok {n v : Nat} {w : Int32} {s : GS} (hn : n ≤ 177) (h : zG n s) : okG n (frmG n v w s) := by
  have h0 : okG n s := fun x y hx hy => ⟨Or.inl (h x y hx hy).1, Or.inl (h x y hx hy).2⟩
  exact frm_kp (fun _ _ _ _ q => fx_ok hn q) (it_kp (n := n) (fun _ _ q => fx_ok hn (fx_ok hn q)) h0)
theorem frm_6 {n v y : Nat} {w : Int32} {s : GS} (hn : 21 ≤ n ∧ n ≤ 177) (hy : y < n) : fxd n 6 y (frmG n v w s) := by
  refine frm_kp (fun _ _ _ _ q => fx_fd hn.2 (by omega) hy q) ?_
  have k := itN_inv (R := fun i s => ∀ j, j < i → j < n → fxd n 6 j s) (f := fun i s => tmS n i s) (s := s) (fun j hj => absurd hj (Nat.not_lt_zero _)) n (fun i a hi q j hj hjn => by
    show fxd n 6 j (fx n 6 (i : Int) _ (fx n (i : Int) 6 _ a))
    by_cases e : j = i
    · subst e
      unfold fxd
      rw [(fx_at (x := 6) (y := j) hn.2 (by omega) hjn).2, if_pos ⟨rfl, rfl⟩]
    · exact fx_fd hn.2 (by omega) hjn (fx_fd hn.2 (by omega) hjn (q j (by omega) hjn)))
  exact k y hy hy
