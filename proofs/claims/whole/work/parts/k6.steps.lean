/-! FIGURES OF STEPS; A ROW OF A CELL -/
def recT (i0 j0 wd hg : Nat) (i j : Nat) : Bool := decide (i0 ≤ i ∧ i < i0 + wd ∧ j0 ≤ j ∧ j < j0 + hg)
theorem stB_q {q i0 j0 wd hg x y : Nat} {X Y : Int} : stB q X Y (i0 : Int) (j0 : Int) (wd : Int) (hg : Int) x y = qB q X Y (recT i0 j0 wd hg) x y := by
  unfold stB qB recT
  rw [← Bool.decide_and]
  exact decide_eq_decide.mpr (by omega)
theorem qB_or {q x y : Nat} {X Y : Int} {S T : Nat → Nat → Bool} : (qB q X Y S x y || qB q X Y T x y) = qB q X Y (fun i j => S i j || T i j) x y := by
  unfold qB
  cases decide (0 ≤ alQ q X Y x y ∧ 0 ≤ acQ q X Y x y) <;> rfl
theorem qB_c {q x y : Nat} {X Y : Int} {S T : Nat → Nat → Bool} (h : ∀ i j, S i j = T i j) : qB q X Y S x y = qB q X Y T x y := by
  unfold qB
  rw [h]
theorem CDS_q {w : Bool} {M0 M : im_M} {W H q : Nat} {D S T : Nat → Nat → Bool} {wy : Int32} {X Y : Int} (h : CDS w M0 M W H D (qB q X Y S) wy) (e : ∀ i j, S i j = T i j) : CDS w M0 M W H D (qB q X Y T) wy := CDS_c h (fun _ _ _ _ => qB_c e)
theorem s_strikeQ {w : Bool} {M0 M : im_M} {W H q i0 j0 wd hg : Nat} {D T : Nat → Nat → Bool} {wy : Int32} {X Y : Int} (h : CDS w M0 M W H D (qB q X Y T) wy) (hp : PN M0 X Y q) (hi : i0 ≤ 200000) (hj : j0 ≤ 200000) (hw : wd ≤ 200000) (hh : hg ≤ 200000) (hd : ∀ i j, recT i0 j0 wd hg i j = true → T i j = false) : ed (f_HPen_strike w (nI i0) (nI j0) (nI wd) (nI hg) M) (fun R => CDS w M0 R W H D (qB q X Y (fun i j => T i j || recT i0 j0 wd hg i j)) wy) := by
  rw [iZ_nI (n := i0), iZ_nI (n := j0), iZ_nI (n := wd), iZ_nI (n := hg)]
  refine ed_mono (s_strike h hp (by omega) (by omega) (by omega) (by omega) (fun x y _ _ hs => ?_)) (fun R hR => CDS_c hR (fun x y _ _ => ?_))
  · rw [stB_q] at hs
    unfold qB at hs ⊢
    rw [Bool.and_eq_true] at hs
    rw [hd _ _ hs.2, Bool.and_false]
  · rw [stB_q, qB_or]
theorem ib_ushr {v : Int32} {j k : Nat} (hj : j < 32) : ib ((Int32.toUInt32 v >>> (Int32.toUInt32 (nI j) &&& Int32.toUInt32 31)).toInt32) k = ib v (j + k) := by
  have e : Int32.toUInt32 (nI j) &&& Int32.toUInt32 31 = Int32.toUInt32 (nI j) := by
    have := (by decide +kernel : ∀ j : Fin 32, Int32.toUInt32 (nI j.val) &&& Int32.toUInt32 31 = Int32.toUInt32 (nI j.val)) ⟨j, hj⟩
    exact this
  rw [e]
  unfold ib
  show ((v.toBitVec) >>> ((Int32.toUInt32 (nI j)).toBitVec % 32)).getLsbD k = _
  have e2 : ((Int32.toUInt32 (nI j)).toBitVec % 32).toNat = j := by
    have := (by decide +kernel : ∀ j : Fin 32, ((Int32.toUInt32 (nI j.val)).toBitVec % 32).toNat = j.val) ⟨j, hj⟩
    exact this
  rw [BitVec.ushiftRight_eq', e2, BitVec.getLsbD_ushiftRight]
theorem ush_0 {v : Int32} {s : Nat} (hs : s < 32) : (((Int32.toUInt32 v >>> (Int32.toUInt32 (nI s) &&& Int32.toUInt32 31)).toInt32 &&& 1) = 0) = (ib v s = false) := by
  rw [i_and1, ib_ushr hs, Nat.add_zero]
  cases ib v s with
  | true => exact propext ⟨fun z => absurd z (by decide), fun z => by cases z⟩
  | false => exact propext ⟨fun _ => rfl, fun _ => rfl⟩
/-- the columns below c0 of a cell's row -/
def rowT (v : Int32) (wd i0 j0 p ps c0 : Nat) (i j : Nat) : Bool := decide (j0 ≤ j ∧ j < j0 + ps ∧ i0 ≤ i ∧ (i - i0) / p < c0 ∧ (i - i0) / p < wd) && ib v (wd - 1 - (i - i0) / p)
theorem div_in {t p a b : Nat} (hp : 1 ≤ p) : (p * a ≤ t ∧ t < p * b) ↔ (a ≤ t / p ∧ t / p < b) := by
  rw [Nat.le_div_iff_mul_le (by omega), Nat.div_lt_iff_lt_mul (by omega), Nat.mul_comm p a, Nat.mul_comm p b]
theorem rec_run {i0 j0 p ps c1 n i j : Nat} (hp : 1 ≤ p) : recT (i0 + p * c1) j0 (p * n) ps i j = decide (j0 ≤ j ∧ j < j0 + ps ∧ i0 ≤ i ∧ c1 ≤ (i - i0) / p ∧ (i - i0) / p < c1 + n) := by
  unfold recT
  apply decide_eq_decide.mpr
  have d := div_in (t := i - i0) (p := p) (a := c1) (b := c1 + n) hp
  rw [Nat.mul_add] at d
  constructor
  · rintro ⟨h1, h2, h3, h4⟩
    have := d.mp ⟨by omega, by omega⟩
    exact ⟨h3, h4, by omega, this.1, this.2⟩
  · rintro ⟨h1, h2, h3, h4, h5⟩
    have := d.mpr ⟨h4, h5⟩
    exact ⟨by omega, by omega, h1, h2⟩
theorem s_cellRow {w : Bool} {M0 M : im_M} {W H q wd i0 j0 p ps : Nat} {D T0 : Nat → Nat → Bool} {wy v : Int32} {X Y : Int} (h : CDS w M0 M W H D (qB q X Y T0) wy) (hp : PN M0 X Y q) (hwd : 1 ≤ wd ∧ wd ≤ 32) (hi : i0 ≤ 150000) (hj : j0 ≤ 1000) (hp1 : 1 ≤ p ∧ p ≤ 10) (hps : 1 ≤ ps ∧ ps ≤ 10) (hd : ∀ i j, j0 ≤ j → j < j0 + ps → i0 ≤ i → (i - i0) / p < wd → T0 i j = false) : ed (f_HPen_drawCellRow w v (nI wd) (nI i0) (nI j0) (nI p) (nI ps) M) (fun R => CDS w M0 R W H D (qB q X Y (fun i j => T0 i j || rowT v wd i0 j0 p ps wd i j)) wy) := by
  unfold f_HPen_drawCellRow
  apply bd1_mk
  refine ed_mono (lp_inv (fun m (s : Int32 × Int32 × im_M) => ∃ dk c : Nat, c + m = wd + 1 ∧ dk ≤ c ∧ (c = wd + 1 → dk = 0) ∧ s.1 = nI dk ∧ s.2.1 = nI c ∧ (∀ t, c - dk ≤ t → t < c → t < wd → ib v (wd - 1 - t) = true) ∧ CDS w M0 s.2.2 W H D (qB q X Y (fun i j => T0 i j || rowT v wd i0 j0 p ps (c - dk) i j)) wy) (Q := fun R => CDS w M0 R W H D (qB q X Y (fun i j => T0 i j || rowT v wd i0 j0 p ps wd i j)) wy) ?_ (k := wd + 1) ⟨0, 0, by omega, Nat.le_refl _, fun z => rfl, rfl, rfl, fun t h1 h2 => absurd h2 (by omega), CDS_q h (fun i j => ?_)⟩) (fun R h => ed_mk h)
  · rintro m ⟨x8, x9, M10⟩ ⟨dk, c, hm, hdk, hd0, e1, e2, hrun, hC⟩
    replace e1 : x8 = nI dk := e1
    replace e2 : x9 = nI c := e2
    replace hC : CDS w M0 M10 W H D (qB q X Y (fun i j => T0 i j || rowT v wd i0 j0 p ps (c - dk) i j)) wy := hC
    subst e1 e2
    show ed (f_HPen_drawCellRow_L6 w v (nI wd) (nI i0) (nI j0) (nI p) (nI ps) (nI dk) (nI c) M10) _
    unfold f_HPen_drawCellRow_L6
    rw [if_nIlt (by omega) (by omega)]
    by_cases k1 : wd < c
    · rw [if_pos k1]
      have ce : c = wd + 1 := by omega
      have de := hd0 ce
      refine lpo_r (CDS_q hC (fun i j => ?_))
      show (T0 i j || _) = (T0 i j || _)
      congr 1
      unfold rowT
      congr 1
      exact decide_eq_decide.mpr (by omega)
    · rw [if_neg k1]
      simp only [jn1]
      -- a run is struck
      have flush : ∀ nb : Bool, (c < wd → ib v (wd - 1 - c) = false) → ed (bd2 (if nI dk ≤ 0 then some (nI dk, M10) else bd1 (f_HPen_strike w (nI i0 + (nI p * (nI c - nI dk))) (nI j0) (nI p * nI dk) (nI ps) M10) fun (M23 : im_M) => some (0, M23)) fun (y24 : Int32) (M25 : im_M) => some (Sum.inl (y24, (nI c + 1), M25))) (lpo (fun m (s : Int32 × Int32 × im_M) => ∃ dk c : Nat, c + m = wd + 1 ∧ dk ≤ c ∧ (c = wd + 1 → dk = 0) ∧ s.1 = nI dk ∧ s.2.1 = nI c ∧ (∀ t, c - dk ≤ t → t < c → t < wd → ib v (wd - 1 - t) = true) ∧ CDS w M0 s.2.2 W H D (qB q X Y (fun i j => T0 i j || rowT v wd i0 j0 p ps (c - dk) i j)) wy) (fun R => CDS w M0 R W H D (qB q X Y (fun i j => T0 i j || rowT v wd i0 j0 p ps wd i j)) wy) m) := by
        intro _ hbit
        have last : ∀ i j, rowT v wd i0 j0 p ps (c + 1 - 0) i j = rowT v wd i0 j0 p ps c i j := fun i j => by
          unfold rowT
          by_cases z : (i - i0) / p = c
          · by_cases y : c < wd
            · rw [z, hbit y, Bool.and_false, Bool.and_false]
            · rw [decide_eq_false (by omega), decide_eq_false (by omega)]
          · congr 1
            exact decide_eq_decide.mpr (by omega)
        have l0 : (nI dk ≤ 0) = (dk ≤ 0) := nIl (c := 0) (by omega) (by omega)
        simp only [l0]
        by_cases k2 : dk ≤ 0
        · obtain rfl : dk = 0 := by omega
          rw [if_pos k2, bd2_s]
          refine lpo_l (m - 1) (by omega) ⟨0, c + 1, by omega, by omega, fun _ => rfl, rfl, nI_add c 1, fun t h1 h2 => absurd h2 (by omega), CDS_q hC (fun i j => ?_)⟩
          show (T0 i j || _) = (T0 i j || _)
          rw [last, Nat.sub_zero]
        · have ea : nI i0 + nI p * (nI c - nI dk) = nI (i0 + p * (c - dk)) := by rw [nI_sb hdk, nI_mul, nI_add]
          have eb : nI p * nI dk = nI (p * dk) := nI_mul p dk
          have b1 : p * (c - dk) ≤ 10 * 33 := Nat.mul_le_mul (by omega) (by omega)
          have b2 : p * dk ≤ 10 * 33 := Nat.mul_le_mul (by omega) (by omega)
          rw [if_neg k2, ea, eb]
          apply bd2_mk
          apply bd1_mk
          refine ed_mono (s_strikeQ hC hp (by omega) (by omega) (by omega) (by omega) (fun i j hr => ?_)) ?_
          · rw [rec_run hp1.1] at hr
            have hr := of_decide_eq_true hr
            have : T0 i j = false := hd i j hr.1 hr.2.1 hr.2.2.1 (by omega)
            rw [this, Bool.false_or]
            unfold rowT
            rw [decide_eq_false (by omega), Bool.false_and]
          · intro R hR
            refine ed_mk (lpo_l (m - 1) (by omega) ⟨0, c + 1, by omega, by omega, fun _ => rfl, rfl, nI_add c 1, fun t h1 h2 => absurd h2 (by omega), CDS_q hR (fun i j => ?_)⟩)
            show (T0 i j || rowT v wd i0 j0 p ps (c - dk) i j || recT (i0 + p * (c - dk)) j0 (p * dk) ps i j) = (T0 i j || rowT v wd i0 j0 p ps (c + 1 - 0) i j)
            rw [last, rec_run hp1.1, Bool.or_assoc]
            congr 1
            unfold rowT
            by_cases z : j0 ≤ j ∧ j < j0 + ps ∧ i0 ≤ i ∧ c - dk ≤ (i - i0) / p ∧ (i - i0) / p < c - dk + dk
            · rw [decide_eq_true z, Bool.or_true, decide_eq_true (by omega), hrun _ z.2.2.2.1 (by omega) (by omega)]
              rfl
            · rw [decide_eq_false z, Bool.or_false]
              congr 1
              exact decide_eq_decide.mpr (by omega)
      rw [if_nIl (by omega) (by omega)]
      by_cases k3 : wd ≤ c
      · rw [if_pos k3]
        exact flush true (fun z => absurd z (by omega))
      · have es : (nI wd - 1) - nI c = nI (wd - 1 - c) := nI_s1 (by omega) (by omega)
        rw [if_neg k3, es]
        simp only [ush_0 (v := v) (s := wd - 1 - c) (by omega)]
        by_cases k4 : ib v (wd - 1 - c) = false
        · rw [if_pos k4]
          exact flush true (fun _ => k4)
        · have k5 : ib v (wd - 1 - c) = true := by simpa using k4
          rw [if_neg k4, bd2_s]
          refine lpo_l (m - 1) (by omega) ⟨dk + 1, c + 1, by omega, by omega, fun z => absurd z (by omega), nI_add dk 1, nI_add c 1, fun t h1 h2 h3 => ?_, CDS_q hC (fun i j => ?_)⟩
          · by_cases e : t = c
            · rw [e]; exact k5
            · exact hrun t (by omega) (by omega) h3
          · rw [show c + 1 - (dk + 1) = c - dk by omega]
  · unfold rowT
    rw [decide_eq_false (fun z => Nat.not_lt_zero _ z.2.2.2.1), Bool.false_and, Bool.or_false]
