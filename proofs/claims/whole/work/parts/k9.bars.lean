/-! BARS -/
def smV (V : Nat → Nat) : Nat → Nat
  | 0 => 0
  | n + 1 => smV V n + V n
theorem smV_le {V : Nat → Nat} {a b : Nat} (h : a ≤ b) : smV V a ≤ smV V b := by
  induction b with
  | zero => obtain rfl : a = 0 := by omega
            exact Nat.le_refl _
  | succ b ih =>
    by_cases e : a = b + 1
    · rw [e]; exact Nat.le_refl _
    · exact Nat.le_trans (ih (by omega)) (Nat.le_add_right _ _)
/-- column i of the bars is dark -/
def colT (V : Nat → Nat) (m : Nat) : Nat → Nat → Bool
  | 0, _ => false
  | n + 1, i => colT V m n i || (decide (n % 2 = 0) && decide (m * smV V n ≤ i ∧ i < m * smV V n + m * V n))
theorem col_out {V : Nat → Nat} {m n i : Nat} (h : m * smV V n ≤ i) : colT V m n i = false := by
  induction n with
  | zero => rfl
  | succ n ih =>
    have : m * smV V (n + 1) = m * smV V n + m * V n := Nat.mul_add _ _ _
    show (colT V m n i || _) = false
    rw [ih (by omega), decide_eq_false (p := m * smV V n ≤ i ∧ i < m * smV V n + m * V n) (by omega), Bool.and_false]
    rfl
theorem col_in {V : Nat → Nat} {m n k i : Nat} (hk : k < n) (h1 : m * smV V k ≤ i) (h2 : i < m * smV V (k + 1)) : colT V m n i = decide (k % 2 = 0) := by
  induction n with
  | zero => exact absurd hk (Nat.not_lt_zero _)
  | succ n ih =>
    show (colT V m n i || _) = _
    by_cases e : k = n
    · subst e
      have : m * smV V (k + 1) = m * smV V k + m * V k := Nat.mul_add _ _ _
      rw [col_out h1, decide_eq_true (p := m * smV V k ≤ i ∧ i < m * smV V k + m * V k) (by omega), Bool.and_true, Bool.false_or]
    · have : m * smV V (k + 1) ≤ m * smV V n := Nat.mul_le_mul_left _ (smV_le (by omega))
      rw [ih (by omega), decide_eq_false (p := m * smV V n ≤ i ∧ i < m * smV V n + m * V n) (by omega), Bool.and_false, Bool.or_false]
def brT (V : Nat → Nat) (m h n : Nat) (i j : Nat) : Bool := colT V m n i && decide (j < h)
/-- the class's widths -/
def BRW (M : im_M) (n : Nat) (V : Nat → Nat) : Prop := im_i M 31 2 = nI n ∧ n ≤ 900 ∧ ∀ i, i < n → im_i M 33 i = nI (V i)
theorem BRW_fr {A : Nat} {F : List (Nat × Nat)} {M M' : im_M} {n : Nat} {V : Nat → Nat} (h : fr A F M M') (c : clr A F [33] [(31, 2)] [] = true) (q : BRW M n V) : BRW M' n V := by
  unfold BRW at q ⊢
  rw [clr_f c h (a := 31) (k := 2) (by decide), clr_a c h (a := 33) (by decide)]
  exact q
theorem s_drawBars {w : Bool} {M : im_M} {W H q m hh n : Nat} {D : Nat → Nat → Bool} {wy : Int32} {X Y : Int} {V : Nat → Nat} (h : CDS w M M W H D (fun _ _ => false) wy) (hp : PN M X Y q) (hv : BRW M n V) (hb : m * smV V n ≤ 200000) (hh2 : hh ≤ 2048) : ed (f_HPen_drawBars w 1 (nI m) (nI hh) M) (fun R => CDS w M R W H D (qB q X Y (brT V m hh n)) wy) := by
  obtain ⟨v0, n9, v1⟩ := hv
  unfold f_HPen_drawBars
  apply bd1_mk
  refine ed_mono (lp_inv (fun k (t : Int32 × Int32 × im_M) => ∃ a : Nat, a + k = n ∧ t.1 = nI (m * smV V a) ∧ t.2.1 = nI a ∧ CDS w M t.2.2 W H D (qB q X Y (brT V m hh a)) wy) (Q := fun R => CDS w M R W H D (qB q X Y (brT V m hh n)) wy) ?_ (k := n) ⟨0, by omega, rfl, rfl, CDS_c h (fun x y _ _ => ?_)⟩) (fun R h => ed_mk h)
  · rintro k ⟨x5, x6, M7⟩ ⟨a, ha, e1, e2, hC⟩
    replace e1 : x5 = nI (m * smV V a) := e1
    replace e2 : x6 = nI a := e2
    replace hC : CDS w M M7 W H D (qB q X Y (brT V m hh a)) wy := hC
    subst e1 e2
    show ed (f_HPen_drawBars_L6 w 1 (nI m) (nI hh) (nI (m * smV V a)) (nI a) M7) _
    unfold f_HPen_drawBars_L6
    have a33 : im_i M7 33 = im_i M 33 := fr_c hC.2.2.2 33 (by decide) (by decide)
    have a31 : im_i M7 31 2 = nI n := (hC.2.2.2.1 31 2 (by decide) (by decide)).trans v0
    rw [if_neg (by decide), a31, if_nIl (by omega) (by omega)]
    by_cases c : n ≤ a
    · rw [if_pos c]
      obtain rfl : a = n := by omega
      exact lpo_r hC
    · have st : m * smV V (a + 1) = m * smV V a + m * V a := Nat.mul_add _ _ _
      have le : m * smV V (a + 1) ≤ m * smV V n := Nat.mul_le_mul_left _ (smV_le (by omega))
      rw [if_neg c, gd_pos (by rw [inb_nI (by omega)]; omega), a33, nI_clamp (by omega), v1 a (by omega), nI_odd (by omega), nI_mul, nI_add]
      have o0 : (nI (a % 2) = 0) = (a % 2 = 0) := nIe (c := 0) (by omega) (by omega)
      simp only [o0]
      by_cases d : a % 2 = 0
      · rw [if_neg (fun z => z d)]
        apply bd1_mk
        apply bd1_mk
        refine ed_mono (s_strikeQ (j0 := 0) hC hp (by omega) (by omega) (by omega) (by omega) (fun i j hr => ?_)) ?_
        · unfold recT at hr
          have hr := of_decide_eq_true hr
          unfold brT
          rw [col_out hr.1, Bool.false_and]
        · intro R hR
          refine ed_mk (lpo_l (k - 1) (by omega) ⟨a + 1, by omega, by rw [st], nI_add a 1, CDS_q hR (fun i j => ?_)⟩)
          show (brT V m hh a i j || recT (m * smV V a) 0 (m * V a) hh i j) = ((colT V m a i || (decide (a % 2 = 0) && decide (m * smV V a ≤ i ∧ i < m * smV V a + m * V a))) && decide (j < hh))
          unfold brT recT
          rw [decide_eq_true d, Bool.true_and, Bool.and_or_distrib_right, ← Bool.decide_and]
          congr 1
          exact decide_eq_decide.mpr (by omega)
      · rw [if_pos d, bd1_s]
        refine lpo_l (k - 1) (by omega) ⟨a + 1, by omega, by rw [st], nI_add a 1, CDS_q hC (fun i j => ?_)⟩
        show _ = ((colT V m a i || (decide (a % 2 = 0) && decide (m * smV V a ≤ i ∧ i < m * smV V a + m * V a))) && decide (j < hh))
        rw [decide_eq_false d, Bool.false_and, Bool.or_false]
        rfl
  · unfold qB
    show false = (_ && (false && _))
    rw [Bool.false_and, Bool.and_false]
theorem s_noBars {w : Bool} {M : im_M} {a b : Int32} : f_HPen_drawBars w 0 a b M = some M := by
  unfold f_HPen_drawBars
  rw [lp_r (r := M) (by show f_HPen_drawBars_L6 w 0 a b 0 0 M = _; unfold f_HPen_drawBars_L6; exact if_pos rfl), bd1_s]
