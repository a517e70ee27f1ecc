/-! THE FIXED MODULES, AS THE REFERENCE TELLS THEM -/
def apN (a b : Nat) : Nat := if b ≤ a then a - b else b - a
theorem s_apart {a b : Nat} {M : im_M} (ha : a < 1000) (hb : b < 1000) : f_MPlaceRows_apart (nI a) (nI b) M = some (nI (apN a b)) := by
  unfold f_MPlaceRows_apart apN
  rw [if_nIl (by omega) (by omega)]
  by_cases c : b ≤ a
  · rw [if_pos c, if_pos c, nI_sb c]
  · rw [if_neg c, if_neg c, nI_sb (by omega)]
theorem s_dist {a b c d : Nat} {M : im_M} (ha : a < 1000) (hb : b < 1000) (hc : c < 1000) (hd : d < 1000) : f_MPlaceRows_distance (nI a) (nI b) (nI c) (nI d) M = some (nI (mxF (apN a c) (apN b d))) := by
  unfold f_MPlaceRows_distance
  have b1 : apN a c < 1000 := by unfold apN; split <;> omega
  have b2 : apN b d < 1000 := by unfold apN; split <;> omega
  rw [s_apart ha hc, bd1_s, s_apart hb hd, bd1_s, if_nIl (by omega) (by omega), bd1_s, bd1_s]
  unfold mxF
  split <;> rfl
/-- which module it is, in numbers -/
def mdV (s i j d : Nat) : Int :=
  if 4 < d then (if j = 6 ∧ 8 ≤ i ∧ i ≤ s - 9 then (if i % 2 = 0 then 1 else 0) else if i = 6 ∧ 8 ≤ j ∧ j ≤ s - 9 then (if j % 2 = 0 then 1 else 0) else if i = 8 ∧ j = s - 8 then 1 else -1)
  else if d = 2 ∨ d = 4 then 0 else 1
def mdD1 (s i j : Nat) : Nat := if mxF (apN i 3) (apN j 3) ≤ 4 then mxF (apN i 3) (apN j 3) else mxF (apN i (s - 4)) (apN j 3)
def mdD (s i j : Nat) : Nat := if mdD1 s i j ≤ 4 then mdD1 s i j else mxF (apN i 3) (apN j (s - 4))
def mdN (s i j : Nat) : Int := mdV s i j (mdD s i j)
theorem mo0_1 {c d : Nat} (h1 : c < 8) (h2 : d < 8) : mo0 c d = cF c d := by unfold mo0; rw [if_pos ⟨h1, h2⟩]
theorem mo0_2 {c d : Nat} (h1 : 12 ≤ c) (h2 : d < 8) : mo0 c d = cF (c - 12) d := by unfold mo0; rw [if_neg (by omega), if_pos ⟨h1, h2⟩]
theorem mo0_3 {c d : Nat} (h1 : c < 8) (h2 : 12 ≤ d) : mo0 c d = cF c (d - 12) := by unfold mo0; rw [if_neg (by omega), if_neg (by omega), if_pos ⟨h1, h2⟩]
theorem mo0_4 {c d : Nat} (h1 : ¬ (c < 8 ∧ d < 8)) (h2 : ¬ (12 ≤ c ∧ d < 8)) (h3 : ¬ (c < 8 ∧ 12 ≤ d)) : mo0 c d = if d = 6 ∧ mdc c = true then (if c = 10 then 0 else 1) else if c = 6 ∧ mdc d = true then (if d = 10 then 0 else 1) else if c = 8 ∧ d = 19 then 1 else -1 := by unfold mo0; rw [if_neg h1, if_neg h2, if_neg h3]
theorem mdV_le {s i j d : Nat} (h : d ≤ 4) : mdV s i j d = if d = 2 ∨ d = 4 then 0 else 1 := by unfold mdV; rw [if_neg (by omega)]
theorem mdV_gt {s i j d : Nat} (h : ¬ d ≤ 4) : mdV s i j d = (if j = 6 ∧ 8 ≤ i ∧ i ≤ s - 9 then (if i % 2 = 0 then 1 else 0) else if i = 6 ∧ 8 ≤ j ∧ j ≤ s - 9 then (if j % 2 = 0 then 1 else 0) else if i = 8 ∧ j = s - 8 then 1 else -1) := by unfold mdV; rw [if_pos (by omega)]
theorem mx_le {a b : Nat} : mxF a b ≤ 4 ↔ a ≤ 4 ∧ b ≤ 4 := by unfold mxF; split <;> omega
theorem ap_3 {i : Nat} : apN i 3 = dF i := by unfold apN dF; split <;> split <;> omega
theorem ap_s {s i : Nat} (hs : 21 ≤ s) (hi : i < s) : apN i (s - 4) = dF (s - 1 - i) := by unfold apN dF; split <;> split <;> omega
theorem dF_le {i : Nat} : dF i ≤ 4 ↔ i ≤ 7 := by unfold dF; split <;> omega
theorem cl_A {v a : Nat} (hv : 1 ≤ v) (h : a < 17 + 4 * v) : (cl (17 + 4 * v) a < 8 ↔ a < 8) ∧ (12 ≤ cl (17 + 4 * v) a ↔ 17 + 4 * v ≤ a + 8) := by
  unfold cl
  repeat' split
  all_goals omega
theorem mdN_mo {v i j : Nat} (hv : 1 ≤ v) (hi : i < 17 + 4 * v) (hj : j < 17 + 4 * v) : mdN (17 + 4 * v) i j = mo0 (cl (17 + 4 * v) i) (cl (17 + 4 * v) j) := by
  unfold mdN
  have q1 : mxF (dF i) (dF j) ≤ 4 ↔ i ≤ 7 ∧ j ≤ 7 := by rw [mx_le, dF_le, dF_le]
  have q2 : mxF (dF (17 + 4 * v - 1 - i)) (dF j) ≤ 4 ↔ 17 + 4 * v ≤ i + 8 ∧ j ≤ 7 := by rw [mx_le, dF_le, dF_le]; omega
  have q3 : mxF (dF i) (dF (17 + 4 * v - 1 - j)) ≤ 4 ↔ i ≤ 7 ∧ 17 + 4 * v ≤ j + 8 := by rw [mx_le, dF_le, dF_le]; omega
  have a3i := ap_3 (i := i)
  have a3j := ap_3 (i := j)
  have asi := ap_s (show 21 ≤ 17 + 4 * v by omega) hi
  have asj := ap_s (show 21 ≤ 17 + 4 * v by omega) hj
  by_cases h1 : i ≤ 7 ∧ j ≤ 7
  · have l1 : cl (17 + 4 * v) i = i := by unfold cl; rw [if_pos (by omega)]
    have l2 : cl (17 + 4 * v) j = j := by unfold cl; rw [if_pos (by omega)]
    have p := q1.mpr h1
    have d1 : mdD1 (17 + 4 * v) i j = mxF (dF i) (dF j) := by unfold mdD1; rw [a3i, a3j, if_pos p]
    have d2 : mdD (17 + 4 * v) i j = mxF (dF i) (dF j) := by unfold mdD; rw [d1, if_pos p]
    rw [d2, mdV_le p, l1, l2, mo0_1 (by omega) (by omega)]
    rfl
  · have p := fun z => h1 (q1.mp z)
    have d1 : mdD1 (17 + 4 * v) i j = mxF (dF (17 + 4 * v - 1 - i)) (dF j) := by unfold mdD1; rw [a3i, a3j, if_neg p, asi]
    by_cases h2 : 17 + 4 * v ≤ i + 8 ∧ j ≤ 7
    · have l1 : cl (17 + 4 * v) i = 12 + (17 + 4 * v - 1 - i) := by unfold cl; rw [if_neg (by omega), if_pos (by omega)]
      have l2 : cl (17 + 4 * v) j = j := by unfold cl; rw [if_pos (by omega)]
      have p2 := q2.mpr h2
      have d2 : mdD (17 + 4 * v) i j = mxF (dF (17 + 4 * v - 1 - i)) (dF j) := by unfold mdD; rw [d1, if_pos p2]
      rw [d2, mdV_le p2, l1, l2, mo0_2 (by omega) (by omega), Nat.add_sub_cancel_left]
      rfl
    · have p2 := fun z => h2 (q2.mp z)
      have d2 : mdD (17 + 4 * v) i j = mxF (dF i) (dF (17 + 4 * v - 1 - j)) := by unfold mdD; rw [d1, if_neg p2, a3i, asj]
      rw [d2]
      by_cases h3 : i ≤ 7 ∧ 17 + 4 * v ≤ j + 8
      · have l1 : cl (17 + 4 * v) i = i := by unfold cl; rw [if_pos (by omega)]
        have l2 : cl (17 + 4 * v) j = 12 + (17 + 4 * v - 1 - j) := by unfold cl; rw [if_neg (by omega), if_pos (by omega)]
        have p3 := q3.mpr h3
        rw [mdV_le p3, l1, l2, mo0_3 (by omega) (by omega), Nat.add_sub_cancel_left]
        rfl
      · have p3 := fun z => h3 (q3.mp z)
        have ki := cl_A hv hi
        have kj := cl_A hv hj
        have n1 : ¬ (cl (17 + 4 * v) i < 8 ∧ cl (17 + 4 * v) j < 8) := by omega
        have n2 : ¬ (12 ≤ cl (17 + 4 * v) i ∧ cl (17 + 4 * v) j < 8) := by omega
        have n3 : ¬ (cl (17 + 4 * v) i < 8 ∧ 12 ≤ cl (17 + 4 * v) j) := by omega
        rw [mdV_gt p3, mo0_4 n1 n2 n3]
        have m1 : ∀ a, a < 17 + 4 * v → (mdc (cl (17 + 4 * v) a) = true ↔ 8 ≤ a ∧ a ≤ 17 + 4 * v - 9) := fun a ha => by
          unfold mdc cl
          simp only [Bool.and_eq_true, decide_eq_true_eq]
          repeat' split
          all_goals omega
        have m6 : ∀ a, a < 17 + 4 * v → (cl (17 + 4 * v) a = 6 ↔ a = 6) := fun a ha => by unfold cl; (repeat' split) <;> omega
        have m8 : ∀ a, a < 17 + 4 * v → (cl (17 + 4 * v) a = 8 ↔ a = 8) := fun a ha => by unfold cl; (repeat' split) <;> omega
        have m19 : ∀ a, a < 17 + 4 * v → (cl (17 + 4 * v) a = 19 ↔ a = 17 + 4 * v - 8) := fun a ha => by unfold cl; (repeat' split) <;> omega
        have m10 : ∀ a, a < 17 + 4 * v → 8 ≤ a ∧ a ≤ 17 + 4 * v - 9 → (cl (17 + 4 * v) a = 10 ↔ ¬ a % 2 = 0) := fun a ha hb => by unfold cl; (repeat' split) <;> omega
        have A1 : (cl (17 + 4 * v) j = 6 ∧ mdc (cl (17 + 4 * v) i) = true) ↔ (j = 6 ∧ 8 ≤ i ∧ i ≤ 17 + 4 * v - 9) := by rw [m6 j hj, m1 i hi]
        have A2 : (cl (17 + 4 * v) i = 6 ∧ mdc (cl (17 + 4 * v) j) = true) ↔ (i = 6 ∧ 8 ≤ j ∧ j ≤ 17 + 4 * v - 9) := by rw [m6 i hi, m1 j hj]
        have A3 : (cl (17 + 4 * v) i = 8 ∧ cl (17 + 4 * v) j = 19) ↔ (i = 8 ∧ j = 17 + 4 * v - 8) := by rw [m8 i hi, m19 j hj]
        simp only [A1, A2, A3]
        by_cases a1 : j = 6 ∧ 8 ≤ i ∧ i ≤ 17 + 4 * v - 9
        · rw [if_pos a1, if_pos a1]
          have := m10 i hi a1.2
          by_cases o : i % 2 = 0
          · rw [if_pos o, if_neg (fun z => this.mp z o)]
          · rw [if_neg o, if_pos (this.mpr o)]
        · rw [if_neg a1, if_neg a1]
          by_cases a2 : i = 6 ∧ 8 ≤ j ∧ j ≤ 17 + 4 * v - 9
          · rw [if_pos a2, if_pos a2]
            have := m10 j hj a2.2
            by_cases o : j % 2 = 0
            · rw [if_pos o, if_neg (fun z => this.mp z o)]
            · rw [if_neg o, if_pos (this.mpr o)]
          · rw [if_neg a2, if_neg a2]
theorem s_module {M : im_M} {v i j : Nat} (hv : 1 ≤ v ∧ v ≤ 40) (hi : i < 17 + 4 * v) (hj : j < 17 + 4 * v) : f_MPlaceRows_module (nI v) (nI i) (nI j) M = some (iZ (mo0 (cl (17 + 4 * v) i) (cl (17 + 4 * v) j))) := by
  rw [← mdN_mo hv.1 hi hj]
  unfold f_MPlaceRows_module f_MPlaceRows_side mdN mdD
  have e17 : (17 : Int32) + (4 : Int32) * nI v = nI (17 + 4 * v) := by rw [nI_m, nI_n, nI_add]
  have e3 : (3 : Int32) = nI 3 := rfl
  have e4 : nI (17 + 4 * v) - 4 = nI (17 + 4 * v - 4) := nI_sm 4 (by show 4 ≤ _; omega)
  have e9 : nI (17 + 4 * v) - 9 = nI (17 + 4 * v - 9) := nI_sm 9 (by show 9 ≤ _; omega)
  have e8 : nI (17 + 4 * v) - 8 = nI (17 + 4 * v - 8) := nI_sm 8 (by show 8 ≤ _; omega)
  have mb : ∀ a b c d : Nat, a < 1000 → b < 1000 → c < 1000 → d < 1000 → mxF (apN a c) (apN b d) < 1000 := fun a b c d _ _ _ _ => by unfold mxF apN; (repeat' split) <;> omega
  rw [e17, bd1_s, e3, s_dist (by omega) (by omega) (by omega) (by omega), bd1_s, e4]
  have b1 := mb i j 3 3 (by omega) (by omega) (by omega) (by omega)
  have b2 := mb i j (17 + 4 * v - 4) 3 (by omega) (by omega) (by omega) (by omega)
  have b3 := mb i j 3 (17 + 4 * v - 4) (by omega) (by omega) (by omega) (by omega)
  have l4 : ∀ a : Nat, a < 1000 → (nI a ≤ 4) = (a ≤ 4) := fun a ha => nIl (c := 4) (by omega) (by omega)
  have g4 : ∀ a : Nat, a < 1000 → ((4 : Int32) < nI a) = (4 < a) := fun a ha => nIlt (x := 4) (by omega) (by omega)
  have q2 : ∀ a : Nat, a < 1000 → (nI a = 2) = (a = 2) := fun a ha => nIe (c := 2) (by omega) (by omega)
  have q4 : ∀ a : Nat, a < 1000 → (nI a = 4) = (a = 4) := fun a ha => nIe (c := 4) (by omega) (by omega)
  have q6 : ∀ a : Nat, a < 1000 → (nI a = 6) = (a = 6) := fun a ha => nIe (c := 6) (by omega) (by omega)
  have q8 : ∀ a : Nat, a < 1000 → (nI a = 8) = (a = 8) := fun a ha => nIe (c := 8) (by omega) (by omega)
  have u8 : ∀ a : Nat, a < 1000 → (nI a < 8) = (a < 8) := fun a ha => nIlt (c := 8) (by omega) (by omega)
  have n0 : ∀ a : Nat, a < 1000 → (nI (a % 2) = 0) = (a % 2 = 0) := fun a ha => nIe (c := 0) (by omega) (by omega)
  have y5 : (if nI (mxF (apN i 3) (apN j 3)) ≤ 4 then some (nI (mxF (apN i 3) (apN j 3))) else bd1 (f_MPlaceRows_distance (nI i) (nI j) (nI (17 + 4 * v - 4)) (nI 3) M) fun (x4 : Int32) => some x4) = some (nI (mdD1 (17 + 4 * v) i j)) := by
    unfold mdD1
    rw [s_dist (by omega) (by omega) (by omega) (by omega), bd1_s]
    simp only [l4 _ b1]
    split <;> rfl
  rw [y5, bd1_s]
  have b5 : mdD1 (17 + 4 * v) i j < 1000 := by unfold mdD1; split <;> omega
  generalize mdD1 (17 + 4 * v) i j = d2 at b5 ⊢
  have y11 : (if nI d2 ≤ 4 then some (nI d2) else bd1 (f_MPlaceRows_distance (nI i) (nI j) (nI 3) (nI (17 + 4 * v - 4)) M) fun (x10 : Int32) => some x10) = some (nI (if d2 ≤ 4 then d2 else mxF (apN i 3) (apN j (17 + 4 * v - 4)))) := by
    rw [s_dist (by omega) (by omega) (by omega) (by omega), bd1_s]
    simp only [l4 _ b5]
    split <;> rfl
  rw [y11, bd1_s]
  have b6 : (if d2 ≤ 4 then d2 else mxF (apN i 3) (apN j (17 + 4 * v - 4))) < 1000 := by split <;> omega
  generalize (if d2 ≤ 4 then d2 else mxF (apN i 3) (apN j (17 + 4 * v - 4))) = d3 at b6 ⊢
  have od1 := nI_odd (i := i) (by omega)
  have od2 := nI_odd (i := j) (by omega)
  have le1 : (nI (17 + 4 * v - 9) < nI j) = (17 + 4 * v - 9 < j) := nIlt (by omega) (by omega)
  have le2 : (nI (17 + 4 * v - 9) < nI i) = (17 + 4 * v - 9 < i) := nIlt (by omega) (by omega)
  have eq8 : (nI j = nI (17 + 4 * v - 8)) = (j = 17 + 4 * v - 8) := nIe (by omega) (by omega)
  simp only [jn0, g4 d3 b6, e9, e8, od1, od2, q6 i (by omega), q6 j (by omega), q8 i (by omega), u8 i (by omega), u8 j (by omega), n0 i (by omega), n0 j (by omega), q2 d3 b6, q4 d3 b6, le1, le2, eq8]
  have z0 : (0 : Int32) = iZ 0 := rfl
  have z1 : (1 : Int32) = iZ 1 := rfl
  have zm : (-1 : Int32) = iZ (-1) := rfl
  by_cases c4 : 4 < d3
  · rw [if_pos c4, mdV_gt (by omega)]
    by_cases a1 : j = 6 ∧ 8 ≤ i ∧ i ≤ 17 + 4 * v - 9
    · rw [if_pos a1, if_neg (fun z => z a1.1), if_neg (by omega), if_neg (by omega)]
      by_cases o : i % 2 = 0
      · rw [if_pos o, if_neg (fun z => z o), z1]
      · rw [if_neg o, if_pos o, z0]
    · rw [if_neg a1]
      have in2 : (if ¬ i = 6 then (if ¬ i = 8 then some (-1 : Int32) else if ¬ j = 17 + 4 * v - 8 then some (-1) else some 1) else if j < 8 then (if ¬ i = 8 then some (-1) else if ¬ j = 17 + 4 * v - 8 then some (-1) else some 1) else if 17 + 4 * v - 9 < j then (if ¬ i = 8 then some (-1) else if ¬ j = 17 + 4 * v - 8 then some (-1) else some 1) else if ¬ j % 2 = 0 then some 0 else some 1) = some (iZ (if i = 6 ∧ 8 ≤ j ∧ j ≤ 17 + 4 * v - 9 then (if j % 2 = 0 then 1 else 0) else if i = 8 ∧ j = 17 + 4 * v - 8 then 1 else -1)) := by
        have in3 : (if ¬ i = 8 then some (-1 : Int32) else if ¬ j = 17 + 4 * v - 8 then some (-1) else some 1) = some (iZ (if i = 8 ∧ j = 17 + 4 * v - 8 then 1 else -1)) := by
          by_cases p : i = 8
          · rw [if_neg (fun z => z p)]
            by_cases r : j = 17 + 4 * v - 8
            · rw [if_neg (fun z => z r), if_pos ⟨p, r⟩, z1]
            · rw [if_pos r, if_neg (fun z => r z.2), zm]
          · rw [if_pos p, if_neg (fun z => p z.1), zm]
        rw [in3]
        by_cases a2 : i = 6 ∧ 8 ≤ j ∧ j ≤ 17 + 4 * v - 9
        · rw [if_pos a2, if_neg (fun z => z a2.1), if_neg (by omega), if_neg (by omega)]
          by_cases o : j % 2 = 0
          · rw [if_pos o, if_neg (fun z => z o), z1]
          · rw [if_neg o, if_pos o, z0]
        · rw [if_neg a2]
          by_cases p : i = 6
          · rw [if_neg (fun z => z p)]
            by_cases r : j < 8
            · rw [if_pos r]
            · rw [if_neg r, if_pos (by omega)]
          · rw [if_pos p]
      rw [in2]
      by_cases p : j = 6
      · rw [if_neg (fun z => z p)]
        by_cases r : i < 8
        · rw [if_pos r]
        · rw [if_neg r, if_pos (by omega)]
      · rw [if_pos p]
  · rw [if_neg c4, mdV_le (by omega)]
    by_cases p : d3 = 2
    · rw [if_pos p, if_pos (Or.inl p), z0]
    · rw [if_neg p]
      by_cases r : d3 = 4
      · rw [if_neg (fun z => z r), if_pos (Or.inr r), z0]
      · rw [if_pos r, if_neg (by omega), z1]
