/-! SMALL SQUARES, FORMS, VERSIONS -/
def smP (v i : Nat) : Nat := if i = 0 then 6 else 17 + 4 * v - 7 - (v / 7 + 2 - 1 - i) * (if v = 32 then 26 else 2 * ((4 * v + 2 * (v / 7 + 2) + 1) / (2 * (v / 7 + 2) - 2)))
theorem sm_c {M : im_M} (v : Fin 41) (i : Fin 8) (h : 1 ≤ v.val) (hi : i.val < v.val / 7 + 2) (h1 : im_i M 38 6 = nI v.val) (h2 : im_i M 38 1 = nI (17 + 4 * v.val)) : f_HGrid_smallPlace (nI i.val) (nI (v.val / 7 + 2)) M = some (nI (smP v.val i.val)) := by
  unfold f_HGrid_smallPlace
  rw [h1, h2]
  clear h1 h2
  revert v i
  decide +kernel
theorem sm_r {M : im_M} (v : Fin 41) (i : Fin 8) (h : 1 ≤ v.val) (hi : i.val < v.val / 7 + 2) : f_MSquareRows_alignmentAt (nI v.val) (nI i.val) M = some (nI (smP v.val i.val)) := by
  unfold f_MSquareRows_alignmentAt f_MSquareRows_sideOf
  revert v i
  decide +kernel
theorem sm_b : ∀ (v : Fin 41) (i : Fin 8), 1 ≤ v.val → i.val < v.val / 7 + 2 → smP v.val i.val ≤ 200 := by decide +kernel
def crB (m i j : Nat) : Bool := (decide (i = 0) && (decide (j = 0) || decide (j = m - 1))) || (decide (i = m - 1) && decide (j = 0))
theorem cr_i {m i j : Nat} (hm : 1 ≤ m ∧ m ≤ 10) (hi : i ≤ 10) (hj : j ≤ 10) : ((if ¬ nI i = 0 then (if ¬ nI i = nI (m - 1) then (0 : Int32) else (if ¬ nI j = 0 then 0 else 1)) else (if nI j = 0 then 1 else (if nI j = nI (m - 1) then 1 else (if ¬ nI i = nI (m - 1) then 0 else (if ¬ nI j = 0 then 0 else 1))))) = 0) = (crB m i j = false) := by
  have k1 : (nI i = 0) = (i = 0) := nIe (c := 0) (by omega) (by omega)
  have k2 : (nI j = 0) = (j = 0) := nIe (c := 0) (by omega) (by omega)
  have k3 : (nI i = nI (m - 1)) = (i = m - 1) := nIe (by omega) (by omega)
  have k4 : (nI j = nI (m - 1)) = (j = m - 1) := nIe (by omega) (by omega)
  have yes : ((1 : Int32) = 0) = False := propext ⟨fun z => absurd z (by decide), fun z => z.elim⟩
  have no : ((0 : Int32) = 0) = True := propext ⟨fun _ => trivial, fun _ => rfl⟩
  unfold crB
  simp only [k1, k2, k3, k4]
  by_cases a : i = 0 <;> by_cases b : j = 0 <;> by_cases c : i = m - 1 <;> by_cases d : j = m - 1 <;> simp [a, b, c, d, yes] <;> (have q : ¬ m - 1 = 0 := by omega) <;> simp [q]
def smF (n v : Nat) (s : GS) : GS := itN (fun i s => itN (fun j s => if crB (v / 7 + 2) i j = true then s else sqF n ((smP v i : Nat) : Int) ((smP v j : Nat) : Int) 2 1 s) s (v / 7 + 2)) s (v / 7 + 2)
theorem s_smallC {M0 M : im_M} {v : Nat} {s : GS} (h : CG M0 M (17 + 4 * v) v s) (hv : 1 ≤ v ∧ v ≤ 40) : ed (f_HGrid_fixSmallSquares M) (fun R => CG M0 R (17 + 4 * v) v (smF (17 + 4 * v) v s)) := by
  obtain ⟨m, hm⟩ : ∃ m, m = v / 7 + 2 := ⟨_, rfl⟩
  have mb : 2 ≤ m ∧ m ≤ 7 := by omega
  have d7 : nI v / 7 = nI (v / 7) := nI_div (b := 7) (by omega) (by omega) (by omega)
  have a2 : nI (v / 7) + 2 = nI m := by rw [hm]; exact nI_add (v / 7) 2
  have m1 : nI m - 1 = nI (m - 1) := nI_m1 (by omega)
  unfold f_HGrid_fixSmallSquares
  rw [h.2.1, d7, a2, m1]
  unfold smF
  rw [← hm]
  apply bd1_mk
  refine ed_mono (lp_for (S := GS) (fun a s (t : Int32 × im_M) => t.1 = nI a ∧ CG M0 t.2 (17 + 4 * v) v s) (Q := fun s R => CG M0 R (17 + 4 * v) v s) m (fun i s => itN (fun j s => if crB m i j = true then s else sqF (17 + 4 * v) ((smP v i : Nat) : Int) ((smP v j : Nat) : Int) 2 1 s) s m) ?_ ?_ ⟨rfl, h⟩) (fun R h => ed_mk h)
  · rintro i s ⟨x4, M5⟩ hi ⟨e1, h5⟩
    replace e1 : x4 = nI i := e1
    replace h5 : CG M0 M5 (17 + 4 * v) v s := h5
    subst e1
    show ed (f_HGrid_fixSmallSquares_L16 (nI m) (nI (m - 1)) (nI i) M5) _
    unfold f_HGrid_fixSmallSquares_L16
    rw [if_nIl (by omega) (by omega), if_neg (by omega)]
    apply bd1_mk
    refine ed_mono (lp_for (S := GS) (fun a s (t : Int32 × im_M) => t.1 = nI a ∧ CG M0 t.2 (17 + 4 * v) v s) (Q := fun s R => CG M0 R (17 + 4 * v) v s) m (fun j s => if crB m i j = true then s else sqF (17 + 4 * v) ((smP v i : Nat) : Int) ((smP v j : Nat) : Int) 2 1 s) ?_ ?_ ⟨rfl, h5⟩) (fun R hR => ed_mk ⟨_, rfl, nI_add i 1, hR⟩)
    · rintro j s ⟨x10, M11⟩ hj ⟨e1, h11⟩
      replace e1 : x10 = nI j := e1
      replace h11 : CG M0 M11 (17 + 4 * v) v s := h11
      subst e1
      show ed (f_HGrid_fixSmallSquares_L24 (nI m) (nI (m - 1)) (nI i) (nI j) M11) _
      unfold f_HGrid_fixSmallSquares_L24
      rw [if_nIl (by omega) (by omega), if_neg (by omega)]
      have sp : ∀ k, k < m → f_HGrid_smallPlace (nI k) (nI m) M11 = some (nI (smP v k)) ∧ smP v k ≤ 200 := fun k hk => by
        have := sm_c (M := M11) ⟨v, by omega⟩ ⟨k, by omega⟩ hv.1 (by show k < v / 7 + 2; omega) h11.2.1 h11.1
        replace this : f_HGrid_smallPlace (nI k) (nI (v / 7 + 2)) M11 = some (nI (smP v k)) := this
        rw [← hm] at this
        exact ⟨this, sm_b ⟨v, by omega⟩ ⟨k, by omega⟩ hv.1 (by show k < v / 7 + 2; omega)⟩
      have cr := cr_i (m := m) (i := i) (j := j) (by omega) (by omega) (by omega)
      apply bd1_mk
      refine ed_mono (P := fun R => CG M0 R (17 + 4 * v) v (if crB m i j = true then s else sqF (17 + 4 * v) ((smP v i : Nat) : Int) ((smP v j : Nat) : Int) 2 1 s)) ?_ (fun R hR => ed_mk ⟨_, rfl, nI_add j 1, hR⟩)
      by_cases c : crB m i j = true
      · rw [if_pos (fun z => by rw [cr] at z; rw [z] at c; cases c), if_pos c]
        exact ed_mk h11
      · have c2 : crB m i j = false := by
          cases z : crB m i j with
          | false => rfl
          | true => exact absurd z c
        rw [if_neg (fun z => z (by rw [cr]; exact c2)), if_neg c, (sp i (by omega)).1, bd1_s, (sp j hj).1, bd1_s, iZ_nI, iZ_nI, show (2 : Int32) = nI 2 from rfl, show (1 : Int32) = nI 1 from rfl]
        have b1 := (sp i (by omega)).2
        have b2 := (sp j hj).2
        apply bd1_mk
        exact ed_mono (s_squaresC h11 (by omega) (by omega) (by omega) (by omega) (by omega)) (fun R hR => ed_mk hR)
    · rintro s ⟨x10, M11⟩ ⟨e1, h11⟩
      replace e1 : x10 = nI m := e1
      subst e1
      show ed (f_HGrid_fixSmallSquares_L24 (nI m) (nI (m - 1)) (nI i) (nI m) M11) _
      unfold f_HGrid_fixSmallSquares_L24
      rw [if_pos (by rw [nIl (by omega) (by omega)]; omega)]
      exact ed_mk ⟨_, rfl, h11⟩
  · rintro s ⟨x4, M5⟩ ⟨e1, h5⟩
    replace e1 : x4 = nI m := e1
    subst e1
    show ed (f_HGrid_fixSmallSquares_L16 (nI m) (nI (m - 1)) (nI m) M5) _
    unfold f_HGrid_fixSmallSquares_L16
    rw [if_pos (by rw [nIl (by omega) (by omega)]; omega)]
    exact ed_mk ⟨_, rfl, h5⟩
theorem s_smallR {M0 M : im_M} {v : Nat} {s : GS} (h : RGs M0 M (17 + 4 * v) s) (hv : 1 ≤ v ∧ v ≤ 40) : ed (lp (uc2 (f_MSquareRows_frame_L134 (nI v) (nI (v / 7 + 2)))) (0, M)) (fun R => RGs M0 R (17 + 4 * v) (if v ≤ 1 then s else smF (17 + 4 * v) v s)) := by
  obtain ⟨m, hm⟩ : ∃ m, m = v / 7 + 2 := ⟨_, rfl⟩
  have mb : 2 ≤ m ∧ m ≤ 7 := by omega
  have m1 : nI m - 1 = nI (m - 1) := nI_m1 (by omega)
  have kv : (nI v ≤ 1) = (v ≤ 1) := nIl (c := 1) (by omega) (by omega)
  unfold smF
  rw [← hm]
  by_cases c1 : v ≤ 1
  · rw [if_pos c1]
    refine ⟨M, lp_r ?_, h⟩
    show f_MSquareRows_frame_L134 (nI v) (nI m) 0 M = _
    unfold f_MSquareRows_frame_L134
    simp only [kv]
    by_cases z : nI m ≤ 0
    · rw [if_pos z]
    · rw [if_neg z, if_pos c1]
  · rw [if_neg c1]
    refine lp_for (S := GS) (fun a s (t : Int32 × im_M) => t.1 = nI a ∧ RGs M0 t.2 (17 + 4 * v) s) (Q := fun s R => RGs M0 R (17 + 4 * v) s) m (fun i s => itN (fun j s => if crB m i j = true then s else sqF (17 + 4 * v) ((smP v i : Nat) : Int) ((smP v j : Nat) : Int) 2 1 s) s m) ?_ ?_ ⟨rfl, h⟩
    · rintro i s ⟨x4, M5⟩ hi ⟨e1, h5⟩
      replace e1 : x4 = nI i := e1
      replace h5 : RGs M0 M5 (17 + 4 * v) s := h5
      subst e1
      show ed (f_MSquareRows_frame_L134 (nI v) (nI m) (nI i) M5) _
      unfold f_MSquareRows_frame_L134
      simp only [kv]
      rw [if_nIl (by omega) (by omega), if_neg (by omega), if_neg c1]
      apply bd1_mk
      refine ed_mono (lp_for (S := GS) (fun a s (t : Int32 × im_M) => t.1 = nI a ∧ RGs M0 t.2 (17 + 4 * v) s) (Q := fun s R => RGs M0 R (17 + 4 * v) s) m (fun j s => if crB m i j = true then s else sqF (17 + 4 * v) ((smP v i : Nat) : Int) ((smP v j : Nat) : Int) 2 1 s) ?_ ?_ ⟨rfl, h5⟩) (fun R hR => ed_mk ⟨_, rfl, nI_add i 1, hR⟩)
      · rintro j s ⟨x10, M11⟩ hj ⟨e1, h11⟩
        replace e1 : x10 = nI j := e1
        replace h11 : RGs M0 M11 (17 + 4 * v) s := h11
        subst e1
        show ed (f_MSquareRows_frame_L147 (nI v) (nI m) (nI i) (nI j) M11) _
        unfold f_MSquareRows_frame_L147
        rw [if_nIl (by omega) (by omega), if_neg (by omega), m1]
        have sp : ∀ k, k < m → f_MSquareRows_alignmentAt (nI v) (nI k) M11 = some (nI (smP v k)) ∧ smP v k ≤ 200 := fun k hk => by
          have := sm_r (M := M11) ⟨v, by omega⟩ ⟨k, by omega⟩ hv.1 (by show k < v / 7 + 2; omega)
          exact ⟨this, sm_b ⟨v, by omega⟩ ⟨k, by omega⟩ hv.1 (by show k < v / 7 + 2; omega)⟩
        have cr := cr_i (m := m) (i := i) (j := j) (by omega) (by omega) (by omega)
        apply bd1_mk
        refine ed_mono (P := fun R => RGs M0 R (17 + 4 * v) (if crB m i j = true then s else sqF (17 + 4 * v) ((smP v i : Nat) : Int) ((smP v j : Nat) : Int) 2 1 s)) ?_ (fun R hR => ed_mk ⟨_, rfl, nI_add j 1, hR⟩)
        by_cases c : crB m i j = true
        · rw [if_pos (fun z => by rw [cr] at z; rw [z] at c; cases c), if_pos c]
          exact ed_mk h11
        · have c2 : crB m i j = false := by
            cases z : crB m i j with
            | false => rfl
            | true => exact absurd z c
          rw [if_neg (fun z => z (by rw [cr]; exact c2)), if_neg c, (sp i (by omega)).1, bd1_s, (sp j hj).1, bd1_s, iZ_nI, iZ_nI, show (2 : Int32) = nI 2 from rfl]
          have b1 := (sp i (by omega)).2
          have b2 := (sp j hj).2
          apply bd1_mk
          exact ed_mono (s_squaresR h11 (by omega) (Or.inr ⟨rfl, rfl, rfl⟩) (by omega) (by omega)) (fun R hR => ed_mk hR)
      · rintro s ⟨x10, M11⟩ ⟨e1, h11⟩
        replace e1 : x10 = nI m := e1
        subst e1
        show ed (f_MSquareRows_frame_L147 (nI v) (nI m) (nI i) (nI m) M11) _
        unfold f_MSquareRows_frame_L147
        rw [if_pos (by rw [nIl (by omega) (by omega)]; omega)]
        exact ed_mk ⟨_, rfl, h11⟩
    · rintro s ⟨x4, M5⟩ ⟨e1, h5⟩
      replace e1 : x4 = nI m := e1
      subst e1
      show ed (f_MSquareRows_frame_L134 (nI v) (nI m) (nI m) M5) _
      unfold f_MSquareRows_frame_L134
      rw [if_pos (by rw [nIl (by omega) (by omega)]; omega)]
      exact ed_mk ⟨_, rfl, h5⟩
/-- the rest of a polynomial, its bits tried from t downward -/
def rsW (w dv : Int32) (dg t : Nat) : Nat → Int32
  | 0 => w
  | k + 1 => if ((rsW w dv dg t k >>> (iZ ((t : Int) - (k : Int)) &&& 31 : Int32) : Int32) &&& 1) = 0 then rsW w dv dg t k else rsW w dv dg t k ^^^ (dv <<< ((iZ ((t : Int) - (k : Int)) - nI dg) &&& 31 : Int32) : Int32)
theorem and_01 {x : Int32} : (¬ (x &&& 1) = 1) = ((x &&& 1) = 0) := by
  rw [i_and1]
  split
  · exact propext ⟨fun z => absurd rfl z, fun z => absurd z (by decide)⟩
  · exact propext ⟨fun _ => rfl, fun _ z => absurd z (by decide)⟩
theorem s_rest {M : im_M} {w dv : Int32} {dg t : Nat} (h : dg ≤ t ∧ t ≤ 31) : f_HGrid_rest w dv (nI dg) (nI (t + 1)) M = some (rsW w dv dg t (t + 1 - dg)) := by
  unfold f_HGrid_rest
  have e1 : nI (t + 1) - 1 = iZ ((t : Int) - ((0 : Nat) : Int)) := by rw [nI_m1 (by omega), Nat.add_sub_cancel, iZ_nI]; rfl
  have e : lp (uc2 (f_HGrid_rest_L8 dv (nI dg) M)) (w, iZ ((t : Int) - ((0 : Nat) : Int))) = some (rsW w dv dg t (t + 1 - dg)) := by
    refine lp_row (fun k => (rsW w dv dg t k, iZ ((t : Int) - (k : Int)))) (t + 1 - dg) (fun k hk => ?_) ?_
    · show f_HGrid_rest_L8 dv (nI dg) M (rsW w dv dg t k) (iZ ((t : Int) - (k : Int))) = some (Sum.inl (rsW w dv dg t (k + 1), iZ ((t : Int) - ((k + 1 : Nat) : Int))))
      unfold f_HGrid_rest_L8
      rw [if_neg (by rw [iZ_nI, iZ_lt (by omega) (by omega)]; omega)]
      have e2 : iZ ((t : Int) - (k : Int)) + (-1) = iZ ((t : Int) - ((k + 1 : Nat) : Int)) := by
        rw [show (-1 : Int32) = iZ (-1) from rfl, iZ_add]
        congr 1
        omega
      rw [e2]
      rfl
    · show f_HGrid_rest_L8 dv (nI dg) M (rsW w dv dg t (t + 1 - dg)) (iZ ((t : Int) - ((t + 1 - dg : Nat) : Int))) = _
      unfold f_HGrid_rest_L8
      rw [if_pos (by rw [iZ_nI, iZ_lt (by omega) (by omega)]; omega)]
  rw [e1, e, bd1_s]
theorem s_short {M : im_M} {d dv : Int32} {dg : Nat} (h : dg ≤ 17) : f_MSquareRows_shortWord d (nI dg) dv M = some ((d <<< (nI dg &&& 31 : Int32) : Int32) ||| rsW (d <<< (nI dg &&& 31 : Int32) : Int32) dv dg 17 (18 - dg)) := by
  unfold f_MSquareRows_shortWord
  have e : lp (uc2 (f_MSquareRows_shortWord_L8 d (nI dg) dv M)) ((d <<< (nI dg &&& 31 : Int32) : Int32), 17) = some (rsW (d <<< (nI dg &&& 31 : Int32) : Int32) dv dg 17 (18 - dg)) := by
    refine lp_row (fun k => (rsW (d <<< (nI dg &&& 31 : Int32) : Int32) dv dg 17 k, iZ (((17 : Nat) : Int) - (k : Int)))) (18 - dg) (fun k hk => ?_) ?_
    · show f_MSquareRows_shortWord_L8 d (nI dg) dv M (rsW (d <<< (nI dg &&& 31 : Int32) : Int32) dv dg 17 k) (iZ (((17 : Nat) : Int) - (k : Int))) = some (Sum.inl (rsW (d <<< (nI dg &&& 31 : Int32) : Int32) dv dg 17 (k + 1), iZ (((17 : Nat) : Int) - ((k + 1 : Nat) : Int))))
      unfold f_MSquareRows_shortWord_L8
      rw [if_neg (by rw [iZ_nI, iZ_lt (by omega) (by omega)]; omega)]
      have e2 : iZ (((17 : Nat) : Int) - (k : Int)) + (-1) = iZ (((17 : Nat) : Int) - ((k + 1 : Nat) : Int)) := by
        rw [show (-1 : Int32) = iZ (-1) from rfl, iZ_add]
        congr 1
        omega
      rw [e2]
      simp only [and_01]
      rfl
    · show f_MSquareRows_shortWord_L8 d (nI dg) dv M (rsW (d <<< (nI dg &&& 31 : Int32) : Int32) dv dg 17 (18 - dg)) (iZ (((17 : Nat) : Int) - ((18 - dg : Nat) : Int))) = _
      unfold f_MSquareRows_shortWord_L8
      rw [if_pos (by rw [iZ_nI, iZ_lt (by omega) (by omega)]; omega)]
  rw [e, bd1_s]
/-- form words and version words -/
def fmW (k : Nat) : Int32 := ((nI k <<< (10 &&& 31 : Int32) : Int32) ||| rsW (nI k <<< (10 &&& 31 : Int32) : Int32) 1335 10 14 5) ^^^ 21522
def vsW (v : Nat) : Int32 := (nI v <<< (12 &&& 31 : Int32) : Int32) ||| rsW (nI v <<< (12 &&& 31 : Int32) : Int32) 7973 12 17 6
theorem fm_r : ∀ k : Fin 32, (((nI k.val <<< (10 &&& 31 : Int32) : Int32) ||| rsW (nI k.val <<< (10 &&& 31 : Int32) : Int32) 1335 10 17 8) ^^^ 21522) = fmW k.val := by decide +kernel
theorem s_formWordC {M : im_M} {k : Nat} : f_HGrid_formWord (nI k) M = some (fmW k) := by
  unfold f_HGrid_formWord
  have : f_HGrid_rest (nI k <<< (10 &&& 31 : Int32) : Int32) 1335 10 15 M = some (rsW (nI k <<< (10 &&& 31 : Int32) : Int32) 1335 10 14 5) := s_rest (dg := 10) (t := 14) (by omega)
  rw [this, bd1_s]
  rfl
theorem s_formWordR {M : im_M} {k : Nat} (hk : k < 32) : f_MSquareRows_formWord (nI k) M = some (fmW k) := by
  unfold f_MSquareRows_formWord
  have : f_MSquareRows_shortWord (nI k) 10 1335 M = some ((nI k <<< (10 &&& 31 : Int32) : Int32) ||| rsW (nI k <<< (10 &&& 31 : Int32) : Int32) 1335 10 17 8) := s_short (dg := 10) (by omega)
  rw [this, bd1_s]
  exact congrArg some (fm_r ⟨k, hk⟩)
/-- where the form stands -/
def fmX (n i c : Nat) : Nat := if c = 1 then (if i < 8 then n - 1 - i else 8) else (if i < 8 then 8 else if i = 8 then 7 else 14 - i)
def fmY (n i c : Nat) : Nat := if c = 1 then (if i < 8 then 8 else n - 15 + i) else (if i < 6 then i else if i = 6 then 7 else 8)
theorem fm_lt {n i c : Nat} (hn : 21 ≤ n) (hi : i < 15) (hc : c < 2) : fmX n i c < n ∧ fmY n i c < n := by
  unfold fmX fmY
  have d : c = 0 ∨ c = 1 := by omega
  rcases d with rfl | rfl
  · rw [if_neg (show ¬ (0 : Nat) = 1 by omega), if_neg (show ¬ (0 : Nat) = 1 by omega)]
    constructor
    · by_cases z : i < 8
      · rw [if_pos z]; omega
      · rw [if_neg z]
        by_cases y : i = 8
        · rw [if_pos y]; omega
        · rw [if_neg y]; omega
    · by_cases z : i < 6
      · rw [if_pos z]; omega
      · rw [if_neg z]
        by_cases y : i = 6
        · rw [if_pos y]; omega
        · rw [if_neg y]; omega
  · rw [if_pos rfl, if_pos rfl]
    by_cases z : i < 8
    · rw [if_pos z, if_pos z]; omega
    · rw [if_neg z, if_neg z]; omega
theorem s_formXC {M : im_M} {n i c : Nat} (h : im_i M 38 1 = nI n) (hn : 21 ≤ n ∧ n ≤ 177) (hi : i < 15) (hc : c < 2) : f_HGrid_formX (nI i) (nI c) M = some (nI (fmX n i c)) ∧ f_HGrid_formY (nI i) (nI c) M = some (nI (fmY n i c)) := by
  unfold f_HGrid_formX f_HGrid_formY fmX fmY
  have k1 : (nI c = 1) = (c = 1) := nIe (c := 1) (by omega) (by omega)
  have k8 : ((8 : Int32) ≤ nI i) = (8 ≤ i) := nIl (x := 8) (by omega) (by omega)
  have k6 : ((6 : Int32) ≤ nI i) = (6 ≤ i) := nIl (x := 6) (by omega) (by omega)
  have e8 : (nI i = 8) = (i = 8) := nIe (c := 8) (by omega) (by omega)
  have e6 : (nI i = 6) = (i = 6) := nIe (c := 6) (by omega) (by omega)
  rw [h]
  simp only [k1, k8, k6, e8, e6]
  have d : c = 0 ∨ c = 1 := by omega
  rcases d with rfl | rfl
  · rw [if_pos (show ¬ (0 : Nat) = 1 by omega), if_pos (show ¬ (0 : Nat) = 1 by omega), if_neg (show ¬ (0 : Nat) = 1 by omega), if_neg (show ¬ (0 : Nat) = 1 by omega)]
    constructor
    · by_cases z : 8 ≤ i
      · rw [if_pos z, if_neg (show ¬ i < 8 by omega)]
        by_cases y : i = 8
        · rw [if_neg (fun w => w y), if_pos y]; rfl
        · rw [if_pos y, if_neg y, show (14 : Int32) = nI 14 from rfl, nI_sb (by omega)]
      · rw [if_neg z, if_pos (show i < 8 by omega)]; rfl
    · by_cases z : 6 ≤ i
      · rw [if_pos z, if_neg (show ¬ i < 6 by omega)]
        by_cases y : i = 6
        · rw [if_neg (fun w => w y), if_pos y]; rfl
        · rw [if_pos y, if_neg y]; rfl
      · rw [if_neg z, if_pos (show i < 6 by omega)]
  · rw [if_neg (show ¬ ¬ (1 : Nat) = 1 by omega), if_neg (show ¬ ¬ (1 : Nat) = 1 by omega), if_pos rfl, if_pos rfl]
    constructor
    · by_cases z : 8 ≤ i
      · rw [if_pos z, if_neg (show ¬ i < 8 by omega)]; rfl
      · rw [if_neg z, if_pos (show i < 8 by omega), nI_m1 (by omega), nI_sb (by omega)]
    · by_cases z : 8 ≤ i
      · rw [if_pos z, if_neg (show ¬ i < 8 by omega), show (15 : Int32) = nI 15 from rfl, nI_sb (by omega), nI_add]
      · rw [if_neg z, if_pos (show i < 8 by omega)]; rfl
theorem s_formXR {M : im_M} {n i c : Nat} (hn : 21 ≤ n ∧ n ≤ 177) (hi : i < 15) (hc : c < 2) : f_MSquareRows_formX (nI i) (nI c) (nI n) M = some (nI (fmX n i c)) ∧ f_MSquareRows_formY (nI i) (nI c) (nI n) M = some (nI (fmY n i c)) := by
  unfold f_MSquareRows_formX f_MSquareRows_formY fmX fmY
  have k0 : (nI c = 0) = (c = 0) := nIe (c := 0) (by omega) (by omega)
  have k8 : ((8 : Int32) ≤ nI i) = (8 ≤ i) := nIl (x := 8) (by omega) (by omega)
  have k6 : ((6 : Int32) ≤ nI i) = (6 ≤ i) := nIl (x := 6) (by omega) (by omega)
  have e8 : (nI i = 8) = (i = 8) := nIe (c := 8) (by omega) (by omega)
  simp only [k0, k8, k6, e8]
  have d : c = 0 ∨ c = 1 := by omega
  rcases d with rfl | rfl
  · rw [if_pos rfl, if_pos rfl, if_neg (show ¬ (0 : Nat) = 1 by omega), if_neg (show ¬ (0 : Nat) = 1 by omega)]
    constructor
    · by_cases z : 8 ≤ i
      · rw [if_pos z, if_neg (show ¬ i < 8 by omega)]
        by_cases y : i = 8
        · rw [if_neg (fun w => w y), if_pos y]; rfl
        · rw [if_pos y, if_neg y, show (14 : Int32) = nI 14 from rfl, nI_sb (by omega)]
      · rw [if_neg z, if_pos (show i < 8 by omega)]; rfl
    · by_cases z : 6 ≤ i
      · rw [if_pos z, if_neg (show ¬ i < 6 by omega)]
        by_cases y : 8 ≤ i
        · rw [if_pos y, if_neg (show ¬ i = 6 by omega)]; rfl
        · rw [if_neg y]
          by_cases w : i = 6
          · rw [if_pos w, w]; rfl
          · rw [if_neg w, show i = 7 by omega]; rfl
      · rw [if_neg z, if_pos (show i < 6 by omega)]
  · rw [if_neg (show ¬ (1 : Nat) = 0 by omega), if_neg (show ¬ (1 : Nat) = 0 by omega), if_pos rfl, if_pos rfl]
    constructor
    · by_cases z : 8 ≤ i
      · rw [if_pos z, if_neg (show ¬ i < 8 by omega)]; rfl
      · rw [if_neg z, if_pos (show i < 8 by omega), nI_m1 (by omega), nI_sb (by omega)]
    · by_cases z : 8 ≤ i
      · rw [if_pos z, if_neg (show ¬ i < 8 by omega), show (15 : Int32) = nI 15 from rfl, nI_sb (by omega), nI_add]
      · rw [if_neg z, if_pos (show i < 8 by omega)]; rfl
def fmS (n : Nat) (w : Int32) (i : Nat) (s : GS) : GS := fx n ((fmX n i 1 : Nat) : Int) ((fmY n i 1 : Nat) : Int) (ib w i) (fx n ((fmX n i 0 : Nat) : Int) ((fmY n i 0 : Nat) : Int) (ib w i) s)
def fmF (n : Nat) (w : Int32) (s : GS) : GS := itN (fun i s => fmS n w i s) s 15
theorem bt_c {w : Int32} {i : Nat} (hi : i < 32) : ((if ((w >>> (nI i &&& 31 : Int32) : Int32) &&& 1) = 0 then (0 : Int32) else 1) = 0) = (ib w i = false) := by
  rw [iZ_nI]
  simp only [and1_0 hi]
  cases ib w i with
  | false => exact propext ⟨fun _ => rfl, fun _ => rfl⟩
  | true => exact propext ⟨fun z => absurd z (by decide), fun z => by cases z⟩
theorem bt_r {w : Int32} {i : Nat} (hi : i < 32) : ((if ¬ ((w >>> (nI i &&& 31 : Int32) : Int32) &&& 1) = 1 then (0 : Int32) else 1) = 0) = (ib w i = false) := by
  simp only [and_01]
  exact bt_c hi
theorem s_formC {M0 M : im_M} {n v l k : Nat} {s : GS} (h : CG M0 M n v s) (hn : 21 ≤ n ∧ n ≤ 177) (hl : l < 4) : ed (f_HGrid_fixForm (nI l) (nI k) M) (fun R => CG M0 R n v (fmF n (fmW (8 * (l ^^^ 1) + k)) s)) := by
  unfold f_HGrid_fixForm
  rw [show (1 : Int32) = nI 1 from rfl, nI_xor, nI_m, nI_add, s_formWordC, bd1_s]
  generalize fmW (8 * (l ^^^ 1) + k) = w
  apply bd1_mk
  refine ed_mono (lp_for (S := GS) (fun a s (t : Int32 × im_M) => t.1 = nI a ∧ CG M0 t.2 n v s) (Q := fun s R => CG M0 R n v s) 15 (fun i s => fmS n w i s) ?_ ?_ ⟨rfl, h⟩) (fun R h => ed_mk h)
  · rintro i s ⟨x4, M5⟩ hi ⟨e1, h5⟩
    replace e1 : x4 = nI i := e1
    replace h5 : CG M0 M5 n v s := h5
    subst e1
    show ed (f_HGrid_fixForm_L15 w (nI i) M5) _
    unfold f_HGrid_fixForm_L15
    have k15 : ((15 : Int32) ≤ nI i) = (15 ≤ i) := nIl (x := 15) (by omega) (by omega)
    simp only [k15]
    rw [if_neg (by omega)]
    apply bd1_mk
    refine ed_mono (lp_for (S := GS) (fun c s (t : Int32 × im_M) => t.1 = nI c ∧ CG M0 t.2 n v s) (Q := fun s R => CG M0 R n v s) 2 (fun c s => fx n ((fmX n i c : Nat) : Int) ((fmY n i c : Nat) : Int) (ib w i) s) ?_ ?_ ⟨rfl, h5⟩) (fun R hR => ed_mk ⟨_, rfl, nI_add i 1, hR⟩)
    · rintro c s ⟨x9, M10⟩ hc ⟨e1, h10⟩
      replace e1 : x9 = nI c := e1
      replace h10 : CG M0 M10 n v s := h10
      subst e1
      show ed (f_HGrid_fixForm_L25 w (nI i) (nI c) M10) _
      unfold f_HGrid_fixForm_L25
      have k2 : ((2 : Int32) ≤ nI c) = (2 ≤ c) := nIl (x := 2) (by omega) (by omega)
      simp only [k2]
      obtain ⟨fx1, fy1⟩ := s_formXC h10.1 hn hi hc
      have fl := fm_lt (n := n) (by omega) hi hc
      rw [if_neg (by omega), fx1, bd1_s, fy1, bd1_s, iZ_nI, iZ_nI]
      apply bd1_mk
      exact ed_mono (s_fixC h10 hn.2 (by omega) (by omega) (bt_c (by omega))) (fun R hR => ed_mk ⟨_, rfl, nI_add c 1, hR⟩)
    · rintro s ⟨x9, M10⟩ ⟨e1, h10⟩
      replace e1 : x9 = nI 2 := e1
      subst e1
      show ed (f_HGrid_fixForm_L25 w (nI i) (nI 2) M10) _
      unfold f_HGrid_fixForm_L25
      rw [if_pos (by decide)]
      exact ed_mk ⟨_, rfl, h10⟩
  · rintro s ⟨x4, M5⟩ ⟨e1, h5⟩
    replace e1 : x4 = nI 15 := e1
    subst e1
    show ed (f_HGrid_fixForm_L15 w (nI 15) M5) _
    unfold f_HGrid_fixForm_L15
    rw [if_pos (by decide)]
    exact ed_mk ⟨_, rfl, h5⟩
theorem s_formR {M0 M : im_M} {n k : Nat} {s : GS} (h : RGs M0 M n s) (hn : 21 ≤ n ∧ n ≤ 177) (hk : k < 32) : ed (f_MSquareRows_layForm (nI k) M) (fun R => RGs M0 R n (fmF n (fmW k) s)) := by
  unfold f_MSquareRows_layForm
  rw [s_formWordR hk, bd1_s]
  generalize fmW k = w
  apply bd1_mk
  refine ed_mono (lp_for (S := GS) (fun a s (t : Int32 × im_M) => t.1 = nI a ∧ RGs M0 t.2 n s) (Q := fun s R => RGs M0 R n s) 15 (fun i s => fmS n w i s) ?_ ?_ ⟨rfl, h⟩) (fun R h => ed_mk h)
  · rintro i s ⟨x4, M5⟩ hi ⟨e1, h5⟩
    replace e1 : x4 = nI i := e1
    replace h5 : RGs M0 M5 n s := h5
    subst e1
    show ed (f_MSquareRows_layForm_L7 w (nI i) M5) _
    unfold f_MSquareRows_layForm_L7
    have k15 : ((15 : Int32) ≤ nI i) = (15 ≤ i) := nIl (x := 15) (by omega) (by omega)
    simp only [k15]
    have q0 := fun M : im_M => s_formXR (M := M) (i := i) (c := 0) hn hi (by omega)
    have q1 := fun M : im_M => s_formXR (M := M) (i := i) (c := 1) hn hi (by omega)
    have l0 := fm_lt (n := n) (i := i) (c := 0) (by omega) hi (by omega)
    have l1 := fm_lt (n := n) (i := i) (c := 1) (by omega) hi (by omega)
    have a0 : f_MSquareRows_formX (nI i) 0 (nI n) M5 = some (nI (fmX n i 0)) := (q0 M5).1
    have a1 : f_MSquareRows_formY (nI i) 0 (nI n) M5 = some (nI (fmY n i 0)) := (q0 M5).2
    rw [if_neg (by omega), h5.1, a0, bd1_s, a1, bd1_s, iZ_nI, iZ_nI]
    apply bd1_mk
    refine ed_mono (s_fixR h5 hn.2 (by omega) (by omega) (bt_r (by omega))) ?_
    intro M9 h9
    have a2 : f_MSquareRows_formX (nI i) 1 (nI n) M9 = some (nI (fmX n i 1)) := (q1 M9).1
    have a3 : f_MSquareRows_formY (nI i) 1 (nI n) M9 = some (nI (fmY n i 1)) := (q1 M9).2
    rw [h9.1, a2, bd1_s, a3, bd1_s, iZ_nI, iZ_nI]
    apply bd1_mk
    refine ed_mono (s_fixR h9 hn.2 (by omega) (by omega) (bt_r (by omega))) (fun R hR => ed_mk ⟨_, rfl, nI_add i 1, hR⟩)
  · rintro s ⟨x4, M5⟩ ⟨e1, h5⟩
    replace e1 : x4 = nI 15 := e1
    subst e1
    show ed (f_MSquareRows_layForm_L7 w (nI 15) M5) _
    unfold f_MSquareRows_layForm_L7
    rw [if_pos (by decide)]
    exact ed_mk ⟨_, rfl, h5⟩
