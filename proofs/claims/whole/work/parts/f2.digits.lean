/-! NUMBERS -/
def dgB (b : Int32) : Int32 := if b < 48 then 0 else if 57 < b then 0 else 1
theorem s_dgC {b : Int32} {M : im_M} : f_HTape_isDigit b M = some (dgB b) := by
  unfold f_HTape_isDigit dgB
  repeat' split
  all_goals rfl
theorem s_dgM {b : Int32} {M : im_M} : f_MScriptRows_isDigit b M = some (dgB b) := by
  unfold f_MScriptRows_isDigit dgB
  repeat' split
  all_goals rfl
theorem hd_dg {S : List Int32} (h : ¬ dgB (nxB S) = 0) : ∃ b T, S = b :: T ∧ ¬ b = -1 := by
  cases S with
  | nil => exact absurd (show dgB (-1) = 0 by decide) h
  | cons b T => exact ⟨b, T, rfl, fun z => h (by subst z; show dgB (-1) = 0; decide)⟩
theorem hd_is {S : List Int32} {b : Int32} (h : nxB S = b) (hb : ¬ b = -1) : ∃ T, S = b :: T := by
  cases S with
  | nil => exact absurd h.symm hb
  | cons c T => exact ⟨T, by rw [← h]; rfl⟩
/-- both read the same digits -/
theorem two_digits {Mc Mr : im_M} {d : Nat} {S : List Int32} {p0 mi a1 a2 a3 a4 : Int32} (hc : CS Mc d S) (hm : MS Mr S) : ed (lp (uc3 (f_HTape_takeNumber_L28 p0 mi)) (0, 0, Mc)) (fun r1 => ed (lp (uc3 (f_MScriptRows_takeNumbers_L81 a1 a2 a3 a4)) (0, 0, Mr)) (fun r2 => ∃ n T, n ≤ 6 ∧ r1.2.1 = nI n ∧ r2.1 = nI n ∧ r2.2.1 = r1.1 ∧ CS r1.2.2 d T ∧ MS r2.2.2 T ∧ fr (2 ^ 8) [] Mc r1.2.2 ∧ fr 0 [(71, 8)] Mr r2.2.2 ∧ (n = 0 ↔ dgB (nxB S) = 0))) := by
  refine lp_two (fun k (s1 : Int32 × Int32 × im_M) (s2 : Int32 × Int32 × im_M) => ∃ n T, n + k = 6 ∧ s1.2.1 = nI n ∧ s2.1 = nI n ∧ s2.2.1 = s1.1 ∧ CS s1.2.2 d T ∧ MS s2.2.2 T ∧ fr (2 ^ 8) [] Mc s1.2.2 ∧ fr 0 [(71, 8)] Mr s2.2.2 ∧ (n = 0 → T = S) ∧ (0 < n → ¬ dgB (nxB S) = 0)) ?_ (k := 6) ⟨0, S, by omega, rfl, rfl, rfl, hc, hm, fr_refl, fr_refl, fun _ => rfl, fun z => absurd z (by omega)⟩
  rintro k ⟨x12, x13, M14⟩ ⟨x31, x32, M33⟩ ⟨n, T, hk, e1, e2, e3, q1, q2, f1, f2, g1, g2⟩
  replace e1 : x13 = nI n := e1
  replace e2 : x31 = nI n := e2
  replace e3 : x32 = x12 := e3
  replace q1 : CS M14 d T := q1
  replace q2 : MS M33 T := q2
  replace f1 : fr (2 ^ 8) [] Mc M14 := f1
  replace f2 : fr 0 [(71, 8)] Mr M33 := f2
  subst e1 e2 e3
  show ed (f_HTape_takeNumber_L28 p0 mi x32 (nI n) M14) _
  have c6 : ((6 : Int32) ≤ nI n) = (6 ≤ n) := nIl (x := 6) (by omega) (by omega)
  have eM : f_MScriptRows_takeNumbers_L81 a1 a2 a3 a4 (nI n) x32 M33 = if dgB (nxB T) = 0 then some (.inr (nI n, x32, M33)) else if 6 ≤ n then some (.inr (nI n, x32, M33)) else bd2 (f_MScriptRows_next M33) fun (x36 : Int32) (M36 : im_M) => some (.inl ((nI n + 1), ((((10 : Int32) * x32) + x36) - 48), M36)) := by
    unfold f_MScriptRows_takeNumbers_L81
    rw [s_peek q2, bd1_s, s_dgM, bd1_s]
    simp only [c6]
  unfold f_HTape_takeNumber_L28
  simp only [c6]
  by_cases h6 : 6 ≤ n
  · rw [if_pos h6]
    refine two_r (r2 := (nI n, x32, M33)) ?_ ⟨n, T, by omega, rfl, rfl, rfl, q1, q2, f1, f2, ⟨fun z => absurd z (by omega), fun z => absurd z (g2 (by omega))⟩⟩
    show f_MScriptRows_takeNumbers_L81 a1 a2 a3 a4 (nI n) x32 M33 = _
    rw [eM, if_pos h6]
    split <;> rfl
  · rw [if_neg h6, s_nextC q1, bd1_s, s_dgC, bd1_s]
    by_cases hd : dgB (nxB T) = 0
    · rw [if_pos hd]
      refine two_r (r2 := (nI n, x32, M33)) ?_ ⟨n, T, by omega, rfl, rfl, rfl, q1, q2, f1, f2, ⟨fun z => by rw [← g1 z]; exact hd, fun z => ?_⟩⟩
      · show f_MScriptRows_takeNumbers_L81 a1 a2 a3 a4 (nI n) x32 M33 = _
        rw [eM, if_pos hd]
      · apply Classical.byContradiction
        intro z2
        exact g2 (by omega) z
    · obtain ⟨b, U, rfl, hb⟩ := hd_dg hd
      obtain ⟨M18, e18, q18, f18⟩ := s_pass q1 hb
      obtain ⟨⟨x36, M36⟩, e36, v36, q36, f36⟩ := s_nextM q2
      replace v36 : x36 = b := v36
      subst v36
      rw [if_neg hd, bd1_s, e18, bd1_s]
      refine two_l (k - 1) (by omega) (s2 := (nI (n + 1), ((((10 : Int32) * x32) + x36) - 48), M36)) ?_ ⟨n + 1, U, by omega, nI_add n 1, rfl, rfl, q18, q36, fr_tr f18 f1, fr_tr f36 f2, fun z => absurd z (by omega), fun _ => ?_⟩
      · show f_MScriptRows_takeNumbers_L81 a1 a2 a3 a4 (nI n) x32 M33 = _
        rw [eM, if_neg hd, if_neg h6, e36, bd2_s]
        show some (Sum.inl (nI n + 1, _, _)) = _
        rw [show nI n + 1 = nI (n + 1) from nI_add n 1]
      · by_cases z : n = 0
        · rw [← g1 z]; exact hd
        · exact g2 (by omega)
/-- one number, as the reference reads it -/
noncomputable def rNum (v10 v11 x12 : Int32) (M13 : im_M) : Option (Int32 × im_M) := bd1 (f_MScriptRows_peek M13) fun (x14 : Int32) => bd2 (if ((if ¬ x14 = 45 then 0 else 1) : Int32) = 0 then some ((1 : Int32), M13) else bd2 (f_MScriptRows_next M13) fun (_ : Int32) (M17 : im_M) => bd1 (f_MScriptRows_peek M17) fun (x18 : Int32) => bd1 (f_MScriptRows_isDigit x18 M17) fun (x19 : Int32) => if ¬ x19 = 0 then some (1, M17) else some (0, M17)) fun (ok : Int32) (M20 : im_M) => if ok = 0 then some (0, M20) else bd3 (lp (uc3 (f_MScriptRows_takeNumbers_L81 v10 v11 x12 ((if ¬ x14 = 45 then 0 else 1) : Int32))) (0, 0, M20)) fun (y37 : Int32) (y38 : Int32) (M39 : im_M) => if y37 ≤ 5 then bd1 (if y37 ≤ 0 then some M39 else gd (inb x12 4) <| some (im_setI M39 78 (Int32.toNatClampNeg x12) ((if ((if ¬ x14 = 45 then 0 else 1) : Int32) = 0 then y38 else (-y38)) : Int32))) fun (M42 : im_M) => some (1, M42) else some (0, M39)
theorem bd_tail {Y : Type} {L : Option (Int32 × Int32 × im_M)} {st : Int32 → Int32 → im_M → Option im_M} {K F : im_M → Option Y} : (bd3 L fun y z M => if y ≤ 5 then bd1 (st y z M) K else F M) = bd2 (bd3 L fun y z M => if y ≤ 5 then bd1 (st y z M) (fun M42 => some ((1 : Int32), M42)) else some (0, M)) fun ok M => if ok = 0 then F M else K M := by
  cases L with
  | none => rfl
  | some t =>
    obtain ⟨y, z, M⟩ := t
    rw [bd3_s, bd3_s]
    by_cases c5 : y ≤ 5
    · rw [if_pos c5, if_pos c5]
      cases st y z M with
      | none => rfl
      | some M42 => rw [bd1_s, bd1_s, bd2_s, if_neg (by decide)]
    · rw [if_neg c5, if_neg c5, bd2_s, if_pos rfl]
theorem L32_eq {v10 v11 x12 : Int32} {M13 : im_M} : f_MScriptRows_takeNumbers_L32 v10 v11 x12 M13 = if v11 ≤ x12 then some (.inr (.inl M13)) else bd2 (rNum v10 v11 x12 M13) fun (ok : Int32) (M42 : im_M) => if ok = 0 then some (.inr (.inr (4, M42))) else if ¬ v10 = 75 then bd1 (f_MScriptRows_peek M42) fun (x47 : Int32) => if x47 = 44 then bd2 (f_MScriptRows_next M42) fun (x48 : Int32) (M48 : im_M) => if ¬ x12 = (v11 - 1) then some (.inl ((x12 + 1), M48)) else some (.inr (.inr (4, M48))) else some (.inr (.inr (0, M42))) else bd2 (f_MScriptRows_next M42) fun (x49 : Int32) (M49 : im_M) => if ¬ x49 = 44 then some (.inr (.inr (4, M49))) else some (.inr (.inr (0, M49))) := by
  unfold f_MScriptRows_takeNumbers_L32 rNum
  by_cases c : v11 ≤ x12
  · rw [if_pos c, if_pos c]
  · rw [if_neg c, if_neg c]
    cases f_MScriptRows_peek M13 with
    | none => rfl
    | some x14 =>
      rw [bd1_s, bd1_s]
      by_cases m0 : ((if ¬ x14 = 45 then 0 else 1) : Int32) = 0
      · simp only [jn1, if_pos m0]
        rw [bd2_s, if_neg (show ¬ (1 : Int32) = 0 by decide)]
        exact bd_tail
      · simp only [jn1, if_neg m0]
        cases f_MScriptRows_next M13 with
        | none => rfl
        | some t =>
          obtain ⟨x17, M17⟩ := t
          rw [bd2_s, bd2_s]
          cases f_MScriptRows_peek M17 with
          | none => rfl
          | some x18 =>
            rw [bd1_s, bd1_s]
            cases f_MScriptRows_isDigit x18 M17 with
            | none => rfl
            | some x19 =>
              rw [bd1_s, bd1_s]
              by_cases z : x19 = 0
              · rw [if_neg (fun y => y z), if_neg (fun y => y z), bd2_s, if_pos rfl, bd2_s, if_pos rfl]
              · rw [if_pos z, if_pos z, bd2_s, if_neg (show ¬ (1 : Int32) = 0 by decide)]
                exact bd_tail
