/-! THE OTHER WRONG DOTS OF A PLACE -/
theorem nI_sb {a b : Nat} (h : b ≤ a) : nI a - nI b = nI (a - b) := by
  rw [iZ_nI, iZ_nI, iZ_sub, iZ_nI]
  congr 1
  omega
theorem nI_sm {a : Nat} (c : Nat) (h : OfNat.ofNat c ≤ a) : nI a - (OfNat.ofNat c : Int32) = nI (a - OfNat.ofNat c) := by rw [nI_n, nI_sb h]
/-- all of it, or more than the limit and no more than all -/
def EX (lim : Nat) (A z : Int) : Prop := z = A ∨ ((lim : Int) < z ∧ z ≤ A)
theorem xR_t : ∀ c : Fin 4, xa_13 (nI c.val) = nI (if cnR c.val = true then 1 else 0) ∧ xa_14 (nI c.val) = nI (if cnD c.val = true then 1 else 0) := by decide +kernel
theorem far_1 {v m x : Nat} {y : Bool} : nI x + nI ((10 + 4 * v) * m) * nI (if y = true then 1 else 0) = nI (x + m * oX v y) := by
  rw [nI_mul, nI_add]
  congr 2
  unfold oX
  cases y
  · rfl
  · show (10 + 4 * v) * m * 1 = m * (10 + 4 * v)
    rw [Nat.mul_one, Nat.mul_comm]
theorem far_2 {v m x : Nat} {y : Bool} : nI (x + m * oX v y) - nI m * nI (if y = true then 1 else 0) = nI (x + m * (oX v y - (if y = true then 1 else 0))) := by
  rw [nI_mul]
  cases y
  · show nI _ - nI (m * 0) = nI (x + m * (oX v false - 0))
    rw [Nat.mul_zero, Nat.sub_zero, nI_sb (by omega), Nat.sub_zero]
  · have e : m * oX v true = m * (oX v true - 1) + m := by
      rw [← Nat.mul_succ]
      congr 1
      show 10 + 4 * v = 10 + 4 * v - 1 + 1
      omega
    show nI _ - nI (m * 1) = nI (x + m * (oX v true - 1))
    rw [Nat.mul_one, nI_sb (by omega), e]
    congr 1
    omega
theorem s_lone {v q : Nat} {M : im_M} (hv : 1 ≤ v) (hq : q < 4) : f_HFinder_loneX (nI (17 + 4 * v)) (nI q) M = some (nI (at1 (17 + 4 * v) (lnX q))) ∧ f_HFinder_loneY (nI (17 + 4 * v)) (nI q) M = some (nI (at1 (17 + 4 * v) (lnY q))) := by
  unfold f_HFinder_loneX f_HFinder_loneY
  have e9 : nI (17 + 4 * v) - 9 = nI (17 + 4 * v - 9) := nI_sm 9 (by show 9 ≤ _; omega)
  have e8 : nI (17 + 4 * v) - 8 = nI (17 + 4 * v - 8) := nI_sm 8 (by show 8 ≤ _; omega)
  have hq4 : q = 0 ∨ q = 1 ∨ q = 2 ∨ q = 3 := by omega
  rcases hq4 with rfl | rfl | rfl | rfl
  · rw [if_neg (by decide), if_neg (by decide), e8]
    refine ⟨rfl, ?_⟩
    congr 2
  · rw [if_pos (by decide), if_neg (by decide), if_pos (by decide), if_neg (by decide)]
    exact ⟨rfl, rfl⟩
  · rw [if_pos (by decide), if_pos (by decide), if_neg (by decide), if_pos (by decide), if_pos (by decide), if_neg (by decide), e9]
    exact ⟨rfl, rfl⟩
  · rw [if_pos (by decide), if_pos (by decide), if_pos (by decide), if_pos (by decide), if_pos (by decide), if_pos (by decide), e9, e8]
    refine ⟨?_, rfl⟩
    congr 2
theorem tm_le {v m : Nat} {B : Nat → Int} (h : ∀ a, 0 ≤ B a ∧ B a ≤ ((m * m : Nat) : Int)) (a : Nat) : tmE v m B a ≤ ((m * m : Nat) : Int) := by
  unfold tmE
  have := h a
  repeat' split
  all_goals omega
theorem tm_up {v m n : Nat} {B : Nat → Int} (h : ∀ a, 0 ≤ B a ∧ B a ≤ ((m * m : Nat) : Int)) (hm : m ≤ 16) (hn : n ≤ 200) : 0 ≤ iS (tmE v m B) n ∧ iS (tmE v m B) n ≤ 51200 := by
  refine ⟨iS_nn n (fun k _ => tm_nn h k), ?_⟩
  have := iS_le (f := tmE v m B) (g := fun _ => 256) n (fun k _ => Int.le_trans (tm_le h k) (by have := mm_le hm; show ((m * m : Nat) : Int) ≤ 256; omega))
  rw [iS_k] at this
  omega
theorem tm_o {v m i : Nat} {B : Nat → Int} (h : 8 ≤ i ∧ i < 9 + 4 * v) (o : i % 2 = 1) : tmE v m B i = B i := by unfold tmE; rw [if_pos h, if_pos o]
theorem tm_e {v m i : Nat} {B : Nat → Int} (h : 8 ≤ i ∧ i < 9 + 4 * v) (o : ¬ i % 2 = 1) : tmE v m B i = ((m * m : Nat) : Int) - B i := by unfold tmE; rw [if_pos h, if_neg o]
theorem tm_8 {v m : Nat} {B : Nat → Int} : iS (tmE v m B) 8 = 0 := iS_0 8 (fun k hk => by unfold tmE; rw [if_neg (by omega)])
theorem tm_end {v m : Nat} {B : Nat → Int} : iS (tmE v m B) (17 + 4 * v) = iS (tmE v m B) (9 + 4 * v) := by
  rw [show 17 + 4 * v = (9 + 4 * v) + 8 by omega, iS_split, iS_0 8 (fun k hk => by show tmE v m B (9 + 4 * v + k) = 0; unfold tmE; rw [if_neg (by omega)])]
  omega
theorem edg_up {D : Nat → Nat → Bool} {m x y v c : Nat} (hm : m ≤ 16) : 0 ≤ edgE (BB D m x y) v c ∧ edgE (BB D m x y) v c ≤ 16384 := by
  refine ⟨edg_nn, ?_⟩
  unfold edgE
  rw [bS_BB]
  have h8 := box_le (D := D) (x := x + m * (oX v (cnR c) - if cnR c = true then 1 else 0)) (y := y + m * (oX v (cnD c) - if cnD c = true then 1 else 0)) (n := m * 8) (c := 128) (by omega)
  have := bS_nn (X := BB D m x y) (a := oX v (cnR c)) (b := oX v (cnD c)) (w := 7) (h := 7) (fun _ _ => BB_nn)
  omega
theorem nI_odd {i : Nat} (h : i < 1000) : (nI i - nI i / 2 * 2) = nI (i % 2) := nI_rem (b := 2) (by omega) (by omega) (by omega)
theorem at1_in {v z m : Nat} (hz : z ≤ 8 ∨ z = 11 ∨ (12 ≤ z ∧ z < 20)) (hv : 1 ≤ v) : m * at1 (17 + 4 * v) z + m ≤ m * (17 + 4 * v) := by
  have : m * (at1 (17 + 4 * v) z + 1) ≤ m * (17 + 4 * v) := Nat.mul_le_mul_left m (at1_lt hz hv)
  rw [Nat.mul_add] at this
  omega
theorem s_wrongAt {M : im_M} {W H m lim v x y q : Nat} {z : Int} {D : Nat → Nat → Bool} (hs : SUMS (im_i M 60) W H D) (g : MLW M m lim W H) (hv : 1 ≤ v ∧ v ≤ 40) (hq : q < 4) (hx : x + m * (17 + 4 * v) ≤ W) (hy : y + m * (17 + 4 * v) ≤ H) (hz : 0 ≤ z ∧ z ≤ (lim : Int)) : ed (f_HFinder_wrongAt (nI x) (nI y) (nI (17 + 4 * v)) (nI q) (iZ z) M) (fun r => ∃ u : Int, r = iZ u ∧ EX lim (z + oth D m v x y q) u ∧ 0 ≤ u ∧ u ≤ 1000000) := by
  obtain ⟨⟨g1, g2, _, _⟩, hm1, hm, hl, hW, hH⟩ := id g
  have zR : tmR q ≤ 8 ∨ tmR q = 11 ∨ (12 ≤ tmR q ∧ tmR q < 20) := by unfold tmR; split <;> omega
  have zC : tmC q ≤ 8 ∨ tmC q = 11 ∨ (12 ≤ tmC q ∧ tmC q < 20) := by unfold tmC; split <;> omega
  have zX : lnX q ≤ 8 ∨ lnX q = 11 ∨ (12 ≤ lnX q ∧ lnX q < 20) := by unfold lnX; (repeat' split) <;> omega
  have zY : lnY q ≤ 8 ∨ lnY q = 11 ∨ (12 ≤ lnY q ∧ lnY q < 20) := by unfold lnY; (repeat' split) <;> omega
  have iR := at1_in (m := m) zR hv.1
  have iC := at1_in (m := m) zC hv.1
  have iX := at1_in (m := m) zX hv.1
  have iY := at1_in (m := m) zY hv.1
  have hmm := mm_le hm
  have e7 : nI (17 + 4 * v) - 7 = nI (10 + 4 * v) := by rw [nI_sm 7 (by show 7 ≤ _; omega)]; congr 1; show 17 + 4 * v - 7 = _; omega
  have e9 : nI (17 + 4 * v) - 9 = nI (8 + 4 * v) := by rw [nI_sm 9 (by show 9 ≤ _; omega)]; congr 1; show 17 + 4 * v - 9 = _; omega
  have eR : nI y + (if (2 : Int32) ≤ nI q then nI ((10 + 4 * v) * m) else nI (6 * m)) = nI (y + m * at1 (17 + 4 * v) (tmR q)) := by
    have hq4 : q = 0 ∨ q = 1 ∨ q = 2 ∨ q = 3 := by omega
    rcases hq4 with rfl | rfl | rfl | rfl
    · rw [if_neg (by decide), nI_add, Nat.mul_comm]; rfl
    · rw [if_neg (by decide), nI_add, Nat.mul_comm]; rfl
    · rw [if_pos (by decide), nI_add, Nat.mul_comm, show at1 (17 + 4 * v) (tmR 2) = 10 + 4 * v from by show 17 + 4 * v - 1 - 6 = _; omega]
    · rw [if_pos (by decide), nI_add, Nat.mul_comm, show at1 (17 + 4 * v) (tmR 3) = 10 + 4 * v from by show 17 + 4 * v - 1 - 6 = _; omega]
  have eC : nI x + (if nI q = 0 then nI (6 * m) else (if ¬ nI q = 3 then nI ((10 + 4 * v) * m) else nI (6 * m))) = nI (x + m * at1 (17 + 4 * v) (tmC q)) := by
    have hq4 : q = 0 ∨ q = 1 ∨ q = 2 ∨ q = 3 := by omega
    rcases hq4 with rfl | rfl | rfl | rfl
    · rw [if_pos (by decide), nI_add, Nat.mul_comm]; rfl
    · rw [if_neg (by decide), if_pos (by decide), nI_add, Nat.mul_comm, show at1 (17 + 4 * v) (tmC 1) = 10 + 4 * v from by show 17 + 4 * v - 1 - 6 = _; omega]
    · rw [if_neg (by decide), if_pos (by decide), nI_add, Nat.mul_comm, show at1 (17 + 4 * v) (tmC 2) = 10 + 4 * v from by show 17 + 4 * v - 1 - 6 = _; omega]
    · rw [if_neg (by decide), if_neg (by decide), nI_add, Nat.mul_comm]; rfl
  have hBr : ∀ a, 0 ≤ BB D m x y a (at1 (17 + 4 * v) (tmR q)) ∧ BB D m x y a (at1 (17 + 4 * v) (tmR q)) ≤ ((m * m : Nat) : Int) := fun a => ⟨BB_nn, BB_le⟩
  have hBc : ∀ a, 0 ≤ BB D m x y (at1 (17 + 4 * v) (tmC q)) a ∧ BB D m x y (at1 (17 + 4 * v) (tmC q)) a ≤ ((m * m : Nat) : Int) := fun a => ⟨BB_nn, BB_le⟩
  unfold f_HFinder_wrongAt
  rw [(s_lone hv.1 hq).1, bd1_s, (s_lone hv.1 hq).2, bd1_s, g1, nI_mul, nI_mul, nI_add, nI_add, s_darkIn hs hW hH (by omega) (by omega), bd1_s, e7, nI_mul, nI_m, nI_mul, eR, eC]
  have hB0 : 0 ≤ BB D m x y (at1 (17 + 4 * v) (lnX q)) (at1 (17 + 4 * v) (lnY q)) ∧ BB D m x y (at1 (17 + 4 * v) (lnX q)) (at1 (17 + 4 * v) (lnY q)) ≤ ((m * m : Nat) : Int) := ⟨BB_nn, BB_le⟩
  unfold BB at hB0
  have hst : iZ z + nI (m * m) - iZ (bS (dt D) (x + m * at1 (17 + 4 * v) (lnX q)) (y + m * at1 (17 + 4 * v) (lnY q)) m m) = iZ (z + (((m * m : Nat) : Int) - bS (dt D) (x + m * at1 (17 + 4 * v) (lnX q)) (y + m * at1 (17 + 4 * v) (lnY q)) m m)) := by
    rw [iZ_nI, iZ_add, iZ_sub]
    congr 1
    omega
  rw [hst]
  have hA : z + oth D m v x y q = (z + (((m * m : Nat) : Int) - bS (dt D) (x + m * at1 (17 + 4 * v) (lnX q)) (y + m * at1 (17 + 4 * v) (lnY q)) m m)) + (iS (tmE v m (fun a => BB D m x y a (at1 (17 + 4 * v) (tmR q)))) (17 + 4 * v) + iS (tmE v m (BB D m x y (at1 (17 + 4 * v) (tmC q)))) (17 + 4 * v)) := by
    unfold oth BB
    omega
  rw [hA]
  generalize hst2 : z + (((m * m : Nat) : Int) - bS (dt D) (x + m * at1 (17 + 4 * v) (lnX q)) (y + m * at1 (17 + 4 * v) (lnY q)) m m) = st
  have hst3 : 0 ≤ st ∧ st ≤ 1000 := by omega
  clear hst2 hst hA hB0
  apply bd1_mk
  refine ed_mono (lp_inv (fun n s => ∃ i : Nat, i + n = 9 + 4 * v ∧ 8 ≤ i ∧ s.2 = nI i ∧ s.1 = iZ (st + (iS (tmE v m (fun a => BB D m x y a (at1 (17 + 4 * v) (tmR q)))) i + iS (tmE v m (BB D m x y (at1 (17 + 4 * v) (tmC q)))) i))) (Q := fun r => ∃ u : Int, r = iZ u ∧ EX lim (st + (iS (tmE v m (fun a => BB D m x y a (at1 (17 + 4 * v) (tmR q)))) (17 + 4 * v) + iS (tmE v m (BB D m x y (at1 (17 + 4 * v) (tmC q)))) (17 + 4 * v))) u ∧ 0 ≤ u ∧ u ≤ 1000000) ?_ (k := 1 + 4 * v) ⟨8, by omega, by omega, rfl, by rw [tm_8, tm_8]; show iZ st = iZ (st + (0 + 0)); rw [Int.add_zero, Int.add_zero]⟩) (fun r h => ed_mk h)
  · rintro n ⟨x14, x15⟩ ⟨i, hi, hi8, e1, e2⟩
    replace e1 : x15 = nI i := e1
    replace e2 : x14 = iZ (st + (iS (tmE v m (fun a => BB D m x y a (at1 (17 + 4 * v) (tmR q)))) i + iS (tmE v m (BB D m x y (at1 (17 + 4 * v) (tmC q)))) i)) := e2
    subst e1 e2
    have b1 := tm_up (v := v) (n := i) hBr hm (by omega)
    have b2 := tm_up (v := v) (n := i) hBc hm (by omega)
    have u1 := iS_up (f := tmE v m (fun a => BB D m x y a (at1 (17 + 4 * v) (tmR q)))) (n := i) (m := 17 + 4 * v) (by omega) (fun k _ => tm_nn hBr k)
    have u2 := iS_up (f := tmE v m (BB D m x y (at1 (17 + 4 * v) (tmC q)))) (n := i) (m := 17 + 4 * v) (by omega) (fun k _ => tm_nn hBc k)
    show ed (f_HFinder_wrongAt_L113 (nI x) (nI y) (nI (17 + 4 * v)) (nI (y + m * at1 (17 + 4 * v) (tmR q))) (nI (x + m * at1 (17 + 4 * v) (tmC q))) M _ (nI i)) _
    unfold f_HFinder_wrongAt_L113
    rw [e9, if_nIlt (by omega) (by omega), g1, g2]
    by_cases c : 8 + 4 * v < i
    · rw [if_pos c]
      obtain rfl : i = 9 + 4 * v := by omega
      refine lpo_r ⟨_, rfl, Or.inl ?_, by omega, by omega⟩
      rw [tm_end, tm_end]
    · rw [if_neg c, iZ_nI, if_iZlt (by omega) (by omega)]
      by_cases c2 : (lim : Int) < st + (iS (tmE v m (fun a => BB D m x y a (at1 (17 + 4 * v) (tmR q)))) i + iS (tmE v m (BB D m x y (at1 (17 + 4 * v) (tmC q)))) i)
      · rw [if_pos c2]
        exact lpo_r ⟨_, rfl, Or.inr ⟨c2, by omega⟩, by omega, by omega⟩
      · have hmi : m * i + m ≤ m * (17 + 4 * v) := by
          have : m * (i + 1) ≤ m * (17 + 4 * v) := Nat.mul_le_mul_left m (by omega)
          rw [Nat.mul_add] at this
          omega
        rw [if_neg c2, nI_mul, nI_add, nI_add, Nat.mul_comm i m, s_darkIn hs hW hH (by omega) (by omega), bd1_s, s_darkIn hs hW hH (by omega) (by omega), bd1_s, nI_odd (by omega), nI_m, nI_mul]
        have r1 : 0 ≤ BB D m x y i (at1 (17 + 4 * v) (tmR q)) ∧ BB D m x y i (at1 (17 + 4 * v) (tmR q)) ≤ ((m * m : Nat) : Int) := hBr i
        have r2 : 0 ≤ BB D m x y (at1 (17 + 4 * v) (tmC q)) i ∧ BB D m x y (at1 (17 + 4 * v) (tmC q)) i ≤ ((m * m : Nat) : Int) := hBc i
        refine lpo_l (n - 1) (by omega) ⟨i + 1, by omega, by omega, nI_add i 1, ?_⟩
        show iZ _ + (if ¬ nI (i % 2) = 0 then iZ (BB D m x y i (at1 (17 + 4 * v) (tmR q))) + iZ (BB D m x y (at1 (17 + 4 * v) (tmC q)) i) else nI (2 * m * m) - (iZ (BB D m x y i (at1 (17 + 4 * v) (tmR q))) + iZ (BB D m x y (at1 (17 + 4 * v) (tmC q)) i))) = iZ (st + ((iS (tmE v m (fun a => BB D m x y a (at1 (17 + 4 * v) (tmR q)))) i + tmE v m (fun a => BB D m x y a (at1 (17 + 4 * v) (tmR q))) i) + (iS (tmE v m (BB D m x y (at1 (17 + 4 * v) (tmC q)))) i + tmE v m (BB D m x y (at1 (17 + 4 * v) (tmC q))) i)))
        have hr : 8 ≤ i ∧ i < 9 + 4 * v := by omega
        by_cases o : i % 2 = 1
        · rw [tm_o hr o, tm_o hr o, o, if_pos (by decide), iZ_add, iZ_add]
          congr 1
          omega
        · have o0 : i % 2 = 0 := by omega
          rw [tm_e hr o, tm_e hr o, o0, if_neg (by decide), iZ_add, iZ_nI, iZ_sub, iZ_add, Nat.mul_assoc]
          congr 1
          have : ((2 * (m * m) : Nat) : Int) = 2 * ((m * m : Nat) : Int) := rfl
          omega
/-! THE CORNERS WITH THEIR EDGES -/
/-- the edges of corner c lie on the sheet -/
def hEd (W H m X Y c : Nat) : Prop := m * (if cnR c = true then 1 else 0) ≤ X ∧ m * (if cnD c = true then 1 else 0) ≤ Y ∧ X - m * (if cnR c = true then 1 else 0) + 8 * m ≤ W ∧ Y - m * (if cnD c = true then 1 else 0) + 8 * m ≤ H
theorem mr_le {m : Nat} {b : Bool} : m * (if b = true then 1 else 0) ≤ m := by
  cases b
  · exact Nat.zero_le _
  · show m * 1 ≤ m
    omega
theorem hEd_1 {W v m x : Nat} {b : Bool} (h : x + m * (17 + 4 * v) ≤ W) : m * (if b = true then 1 else 0) ≤ x + m * oX v b ∧ x + m * oX v b - m * (if b = true then 1 else 0) + 8 * m ≤ W := by
  have h1 : m * (oX v b - (if b = true then 1 else 0) + 8) ≤ m * (17 + 4 * v) := Nat.mul_le_mul_left m (by unfold oX; split <;> omega)
  have h2 : m * (if b = true then 1 else 0) ≤ m * oX v b := Nat.mul_le_mul_left m (by unfold oX; split <;> omega)
  rw [Nat.mul_add] at h1
  rw [← oX_s]
  omega
theorem hEd_of {W H m v x y c : Nat} (hx : x + m * (17 + 4 * v) ≤ W) (hy : y + m * (17 + 4 * v) ≤ H) : hEd W H m (x + m * oX v (cnR c)) (y + m * oX v (cnD c)) c := ⟨(hEd_1 hx).1, (hEd_1 hy).1, (hEd_1 hx).2, (hEd_1 hy).2⟩
theorem eg_ge {D : Nat → Nat → Bool} {W H m X Y c : Nat} (h : hEd W H m X Y c) : rgE D m X Y ≤ egE D m X Y c := by
  have r1 := mr_le (m := m) (b := cnR c)
  have r2 := mr_le (m := m) (b := cnD c)
  have hb := bS_in (X := dt D) (a0 := X - m * (if cnR c = true then 1 else 0)) (b0 := Y - m * (if cnD c = true then 1 else 0)) (w0 := 8 * m) (h0 := 8 * m) (a1 := X) (b1 := Y) (w1 := 7 * m) (h1 := 7 * m) (fun _ _ => dt_nn) (by omega) (by have := h.1; omega) (by omega) (by have := h.2.1; omega)
  unfold egE
  omega
/-- what the class has of a corner with its edges -/
def ewE (D : Nat → Nat → Bool) (m lim X Y c : Nat) : Int := if rgE D m X Y ≤ (lim : Int) then egE D m X Y c else (lim : Int) + 1
theorem ewE_b {D : Nat → Nat → Bool} {W H m lim X Y c : Nat} (h : hEd W H m X Y c) (hm : m ≤ 16) (hl : lim ≤ 500) : 0 ≤ ewE D m lim X Y c ∧ ewE D m lim X Y c ≤ 20000 := by
  have h1 := eg_ge (D := D) h
  have h2 := rg_ge (D := D) (m := m) (x := X) (y := Y)
  have h8 := box_le (D := D) (x := X - m * (if cnR c = true then 1 else 0)) (y := Y - m * (if cnD c = true then 1 else 0)) (n := 8 * m) (c := 128) (by omega)
  have h7 := box_le (D := D) (x := X) (y := Y) (n := 7 * m) (c := 112) (by omega)
  unfold ewE
  split
  · refine ⟨by omega, ?_⟩
    unfold egE
    omega
  · omega
theorem s_edged {M : im_M} {W H m lim X Y c : Nat} {D : Nat → Nat → Bool} (hs : SUMS (im_i M 60) W H D) (g : MLW M m lim W H) (hw : CWS (im_i M 61) W D m lim (H - 7 * m + 1)) (hc : c < 4) (h : hEd W H m X Y c) : f_HFinder_edgedWrong (nI X) (nI Y) (nI c) M = some (iZ (ewE D m lim X Y c)) := by
  obtain ⟨⟨g1, g2, _, _⟩, hm1, hm, hl, hW, hH⟩ := id g
  obtain ⟨h1, h2, h3, h4⟩ := id h
  have r1 := mr_le (m := m) (b := cnR c)
  have r2 := mr_le (m := m) (b := cnD c)
  have t : xa_13 (nI c) = nI (if cnR c = true then 1 else 0) ∧ xa_14 (nI c) = nI (if cnD c = true then 1 else 0) := xR_t ⟨c, hc⟩
  have h5 : X + 7 * m ≤ W := by omega
  have h6 : Y + 7 * m ≤ H := by omega
  have ei : nI Y * 512 + nI X = nI (512 * Y + X) := by rw [nI_n, nI_mul, nI_add, Nat.mul_comm]
  have vv : im_i M 61 (512 * Y + X) = iZ (cwE D m lim X Y) := hw X Y h5 (by omega)
  have cb := cwE_b (D := D) (m := m) (lim := lim) (x := X) (y := Y)
  unfold f_HFinder_edgedWrong
  rw [ei, gd_pos (by rw [inb_nI (by omega)]; omega), nI_clamp (by omega), vv, g2, iZ_nI (n := lim), if_iZl (by omega) (by omega)]
  unfold ewE
  by_cases c1 : cwE D m lim X Y ≤ (lim : Int)
  · have hr : rgE D m X Y ≤ (lim : Int) := by
      unfold cwE at c1
      split at c1 <;> omega
    have hcw : cwE D m lim X Y = rgE D m X Y := by unfold cwE; rw [if_pos hr]
    rw [if_pos c1, gd_pos (by rw [inb_nI (by omega)]; omega), gd_pos (by rw [inb_nI (by omega)]; omega), t.1, t.2, g1, nI_mul, nI_mul, nI_sb h1, nI_sb h2, nI_m, nI_m, s_darkIn hs hW hH h3 h4, bd1_s, s_darkIn hs hW hH h5 h6, bd1_s, hcw, iZ_add, iZ_sub, if_pos hr]
    unfold egE
    congr 2
    omega
  · have hr : ¬ rgE D m X Y ≤ (lim : Int) := fun z => c1 (by unfold cwE; rw [if_pos z]; exact z)
    rw [if_neg c1, if_neg hr]
    unfold cwE
    rw [if_neg hr]
theorem s_leadsOn {M : im_M} {W H m lim : Nat} {z : Int} (g : MLW M m lim W H) (hz : 0 ≤ z ∧ z ≤ 100000) : f_HFinder_leadsOn (iZ z) M = some (if z ≤ ((lim / 3 : Nat) : Int) then 1 else 0) := by
  obtain ⟨⟨_, g2, _, _⟩, _, _, hl, _, _⟩ := id g
  have e3 : nI lim / 3 = iZ ((lim / 3 : Nat) : Int) := by
    rw [nI_n, nI_div (by omega) (by decide) (by decide), iZ_nI]
  unfold f_HFinder_leadsOn
  rw [g2, e3, if_iZlt (by omega) (by omega)]
  by_cases c : z ≤ ((lim / 3 : Nat) : Int)
  · rw [if_pos c, if_neg (by omega)]
  · rw [if_neg c, if_pos (by omega)]
theorem s_hasEdges {M : im_M} {W H m lim X Y c : Nat} (g : MLW M m lim W H) (hX : X ≤ 512) (hY : Y ≤ 512) (hc : c < 4) : ∃ b : Int32, f_HFinder_hasEdges (nI X) (nI Y) (nI c) M = some b ∧ ((b = 0 ∧ ¬ hEd W H m X Y c) ∨ (b = 1 ∧ hEd W H m X Y c)) := by
  obtain ⟨⟨g1, _, gw, gh⟩, _, hm, _, hW, hH⟩ := id g
  have t : xa_13 (nI c) = nI (if cnR c = true then 1 else 0) ∧ xa_14 (nI c) = nI (if cnD c = true then 1 else 0) := xR_t ⟨c, hc⟩
  have r1 := mr_le (m := m) (b := cnR c)
  have r2 := mr_le (m := m) (b := cnD c)
  unfold f_HFinder_hasEdges hEd
  rw [gd_pos (by rw [inb_nI (by omega)]; omega), gd_pos (by rw [inb_nI (by omega)]; omega), t.1, t.2, g1, gw, gh, nI_mul, nI_mul, nI_m]
  generalize m * (if cnR c = true then 1 else 0) = a at r1 ⊢
  generalize m * (if cnD c = true then 1 else 0) = b at r2 ⊢
  have e1 : nI X - nI a = iZ ((X : Int) - (a : Int)) := by rw [iZ_nI, iZ_nI, iZ_sub]
  have e2 : nI Y - nI b = iZ ((Y : Int) - (b : Int)) := by rw [iZ_nI, iZ_nI, iZ_sub]
  have c0 : ∀ z : Int, -10000 ≤ z ∧ z ≤ 10000 → (iZ z < 0) = (z < 0) := fun z hz => iZ_lt (b := 0) (by omega) (by omega)
  rw [e1, e2, iZ_nI (n := W), iZ_nI (n := H), iZ_nI (n := 8 * m), iZ_add, iZ_add, if_iZlt (by omega) (by omega), if_iZlt (by omega) (by omega)]
  simp only [c0 ((X : Int) - (a : Int)) (by omega), c0 ((Y : Int) - (b : Int)) (by omega)]
  by_cases k1 : (X : Int) - (a : Int) < 0
  · rw [if_pos k1]; exact ⟨0, rfl, Or.inl ⟨rfl, by omega⟩⟩
  · rw [if_neg k1]
    by_cases k2 : (Y : Int) - (b : Int) < 0
    · rw [if_pos k2]; exact ⟨0, rfl, Or.inl ⟨rfl, by omega⟩⟩
    · rw [if_neg k2]
      by_cases k3 : (W : Int) < (X : Int) - (a : Int) + ((8 * m : Nat) : Int)
      · rw [if_pos k3]; exact ⟨0, rfl, Or.inl ⟨rfl, by omega⟩⟩
      · rw [if_neg k3]
        by_cases k4 : (H : Int) < (Y : Int) - (b : Int) + ((8 * m : Nat) : Int)
        · rw [if_pos k4]; exact ⟨0, rfl, Or.inl ⟨rfl, by omega⟩⟩
        · rw [if_neg k4]; exact ⟨1, rfl, Or.inr ⟨rfl, by omega⟩⟩
/-- where there are too few dark or light dots, no place stands -/
theorem s_shades {M : im_M} {W H m lim v x y : Nat} {D : Nat → Nat → Bool} (hs : SUMS (im_i M 60) W H D) (g : MLW M m lim W H) (hv : 1 ≤ v ∧ v ≤ 40) (hx : x + m * (17 + 4 * v) ≤ W) (hy : y + m * (17 + 4 * v) ≤ H) : ∃ b : Int32, f_HFinder_hasShades (nI x) (nI y) (nI v) M = some b ∧ ((b = 0 ∧ ∀ q, q < 4 → (lim : Int) < EE (17 + 4 * v) q m (BB D m x y)) ∨ b = 1) := by
  obtain ⟨⟨g1, g2, _, _⟩, _, hm, hl, hW, hH⟩ := id g
  have e17 : (17 : Int32) + (4 : Int32) * nI v = nI (17 + 4 * v) := by rw [nI_m, nI_n, nI_add]
  have e102 : (102 : Int32) + (4 : Int32) * nI v = nI (102 + 4 * v) := by rw [nI_m, nI_n, nI_add]
  have e93 : (93 : Int32) + (4 : Int32) * nI v = nI (93 + 4 * v) := by rw [nI_m, nI_n, nI_add]
  have i102 : (((102 + 4 * v) * m * m : Nat) : Int) = (102 + 4 * (v : Int)) * ((m * m : Nat) : Int) := by
    have : ((102 + 4 * v : Nat) : Int) = 102 + 4 * (v : Int) := by omega
    rw [Nat.mul_assoc, Int.natCast_mul, this]
  have i93 : (((93 + 4 * v) * m * m : Nat) : Int) = (93 + 4 * (v : Int)) * ((m * m : Nat) : Int) := by
    have : ((93 + 4 * v : Nat) : Int) = 93 + 4 * (v : Int) := by omega
    rw [Nat.mul_assoc, Int.natCast_mul, this]
  have hmm := mm_le hm
  have u1 : (102 + 4 * v) * m * m ≤ 262 * 256 := by rw [Nat.mul_assoc]; exact Nat.mul_le_mul (by omega) hmm
  have u2 : (93 + 4 * v) * m * m ≤ 253 * 256 := by rw [Nat.mul_assoc]; exact Nat.mul_le_mul (by omega) hmm
  have bx := box_le (D := D) (x := x) (y := y) (n := m * (17 + 4 * v)) (c := 512) (by omega)
  have u3 : m * (17 + 4 * v) * (m * (17 + 4 * v)) ≤ 512 * 512 := Nat.mul_le_mul (by omega) (by omega)
  unfold f_HFinder_hasShades f_HFinder_darkMarks f_HFinder_lightMarks
  rw [e17, e102, e93, g1, g2, nI_mul, Nat.mul_comm (17 + 4 * v) m, s_darkIn hs hW hH hx hy, bd1_s, bd1_s, bd1_s]
  simp only [nI_mul]
  have sh := fun q (hq : q < 4) => shade (D := D) (m := m) (x := x) (y := y) (q := q) hv.1 hq
  rw [← i102, ← i93] at sh
  rw [iZ_nI (n := lim), iZ_nI (n := (102 + 4 * v) * m * m), iZ_nI (n := (93 + 4 * v) * m * m), iZ_nI (n := m * (17 + 4 * v) * (m * (17 + 4 * v))), iZ_add, iZ_sub, iZ_add, if_iZlt (by omega) (by omega), if_iZlt (by omega) (by omega)]
  by_cases k1 : bS (dt D) x y (m * (17 + 4 * v)) (m * (17 + 4 * v)) + (lim : Int) < (((102 + 4 * v) * m * m : Nat) : Int)
  · rw [if_pos k1]
    exact ⟨0, rfl, Or.inl ⟨rfl, fun q hq => by have := (sh q hq).1; omega⟩⟩
  · rw [if_neg k1]
    by_cases k2 : ((m * (17 + 4 * v) * (m * (17 + 4 * v)) : Nat) : Int) - bS (dt D) x y (m * (17 + 4 * v)) (m * (17 + 4 * v)) + (lim : Int) < (((93 + 4 * v) * m * m : Nat) : Int)
    · rw [if_pos k2]
      exact ⟨0, rfl, Or.inl ⟨rfl, fun q hq => by have := (sh q hq).2; omega⟩⟩
    · rw [if_neg k2]
      exact ⟨1, rfl, Or.inr rfl⟩
