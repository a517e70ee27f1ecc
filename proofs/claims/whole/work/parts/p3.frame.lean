/-! THE FIXED MODULES, BY BOTH -/
abbrev GS := (Nat → Int32) × (Nat → Int32)
def fx (n : Nat) (x y : Int) (b : Bool) (s : GS) : GS := if 0 ≤ x ∧ x < (n : Int) ∧ 0 ≤ y ∧ y < (n : Int) then (upI s.1 (177 * y.toNat + x.toNat) (if b = true then 1 else 0), upI s.2 (177 * y.toNat + x.toNat) 1) else s
def CG (M0 M : im_M) (n v : Nat) (s : GS) : Prop := im_i M 38 1 = nI n ∧ im_i M 38 6 = nI v ∧ im_i M 54 = s.1 ∧ im_i M 55 = s.2 ∧ fr (2 ^ 54 ||| 2 ^ 55) [] M0 M
def RGs (M0 M : im_M) (n : Nat) (s : GS) : Prop := im_i M 108 8 = nI n ∧ im_i M 112 = s.1 ∧ im_i M 113 = s.2 ∧ fr (2 ^ 112 ||| 2 ^ 113) [] M0 M
theorem fl_c {b : Bool} {p : Int32} (hb : (p = 0) = (b = false)) : vp_nar .byte ((Int32.toInt8 ((if p = 0 then 0 else 1) : Int32)).toInt32) = if b = true then 1 else 0 := by
  simp only [hb]
  cases b with
  | false => decide
  | true => decide
theorem fl_r {b : Bool} {p : Int32} (hb : (p = 0) = (b = false)) : ((if p = 0 then 0 else 1) : Int32) = if b = true then 1 else 0 := by
  simp only [hb]
  cases b with
  | false => decide
  | true => decide
theorem fl_i {b : Bool} : ((if b = true then (1 : Int32) else 0) = 0) = (b = false) := by
  cases b with
  | false => exact propext ⟨fun _ => rfl, fun _ => rfl⟩
  | true => exact propext ⟨fun z => absurd z (by decide), fun z => by cases z⟩
theorem s_fixC {M0 M : im_M} {n v : Nat} {x y : Int} {p : Int32} {b : Bool} {s : GS} (h : CG M0 M n v s) (hn : n ≤ 177) (hx : 0 ≤ x ∧ x < (n : Int)) (hy : 0 ≤ y ∧ y < (n : Int)) (hb : (p = 0) = (b = false)) : ed (f_HGrid_fix (iZ x) (iZ y) p M) (fun R => CG M0 R n v (fx n x y b s)) := by
  obtain ⟨h1, h2, h3, h4, h5⟩ := h
  unfold f_HGrid_fix fx
  have e : iZ y * 177 + iZ x = iZ (177 * y + x) := by
    rw [show (177 : Int32) = iZ 177 from rfl, iZ_mul, iZ_add, Int.mul_comm]
  have k : (177 * y + x).toNat = 177 * y.toNat + x.toNat := by omega
  rw [e, gd_pos (by rw [iZ_inb (by omega)]; omega), gd_pos (by rw [iZ_inb (by omega)]; omega), iZ_c (by omega), k, fl_c hb, if_pos (show 0 ≤ x ∧ x < (n : Int) ∧ 0 ≤ y ∧ y < (n : Int) from ⟨hx.1, hx.2, hy.1, hy.2⟩)]
  refine ed_mk ⟨by rw [sk1 (by omega), sk1 (by omega)]; exact h1, by rw [sk1 (by omega), sk1 (by omega)]; exact h2, ?_, ?_, fr_I (by decide) (fr_I (by decide) h5)⟩
  · rw [up_o (by decide), up_I, h3]
  · rw [up_I, up_o (by decide), h4]
    rfl
theorem s_fixR {M0 M : im_M} {n : Nat} {x y : Int} {p : Int32} {b : Bool} {s : GS} (h : RGs M0 M n s) (hn : n ≤ 177) (hx : -1000 ≤ x ∧ x < 1000) (hy : -1000 ≤ y ∧ y < 1000) (hb : (p = 0) = (b = false)) : ed (f_MSquareRows_fix (iZ x) (iZ y) p M) (fun R => RGs M0 R n (fx n x y b s)) := by
  have hh := h
  obtain ⟨h1, h3, h4, h5⟩ := h
  unfold f_MSquareRows_fix fx f_MSquareRows_moduleAt
  have e : iZ x + (177 : Int32) * iZ y = iZ (177 * y + x) := by
    rw [show (177 : Int32) = iZ 177 from rfl, iZ_mul, iZ_add, Int.add_comm]
  have k1 : (iZ x < 0) = (x < 0) := iZ_lt (b := 0) (by omega) (by omega)
  have k2 : (iZ y < 0) = (y < 0) := iZ_lt (b := 0) (by omega) (by omega)
  have k3 : (nI n ≤ iZ x) = ((n : Int) ≤ x) := by rw [iZ_nI, iZ_le (by omega) (by omega)]
  have k4 : (nI n ≤ iZ y) = ((n : Int) ≤ y) := by rw [iZ_nI, iZ_le (by omega) (by omega)]
  rw [h1]
  simp only [k1, k2, k3, k4]
  by_cases a : 0 ≤ x ∧ x < (n : Int) ∧ 0 ≤ y ∧ y < (n : Int)
  · have k : (177 * y + x).toNat = 177 * y.toNat + x.toNat := by omega
    rw [if_neg (by omega), if_neg (by omega), if_neg (by omega), if_neg (by omega), bd1_s, e, gd_pos (by rw [iZ_inb (by omega)]; omega), bd1_s, gd_pos (by rw [iZ_inb (by omega)]; omega), iZ_c (by omega), k, fl_r hb, if_pos a]
    refine ed_mk ⟨by rw [sk1 (by omega), sk1 (by omega)]; exact h1, ?_, ?_, fr_I (by decide) (fr_I (by decide) h5)⟩
    · rw [up_o (by decide), up_I, h3]
    · rw [up_I, up_o (by decide), h4]
  · rw [if_neg a]
    by_cases a1 : x < 0
    · rw [if_pos a1]; exact ed_mk hh
    · rw [if_neg a1]
      by_cases a2 : y < 0
      · rw [if_pos a2]; exact ed_mk hh
      · rw [if_neg a2]
        by_cases a3 : (n : Int) ≤ x
        · rw [if_pos a3]; exact ed_mk hh
        · rw [if_neg a3, if_pos (by omega)]; exact ed_mk hh
/-- squares within squares -/
def dkQ (li d : Nat) : Bool := !decide (d = li) && !decide (d = 4)
def sqR (n : Nat) (x y : Int) (k li a : Nat) (s : GS) : GS := itN (fun b s => fx n (x + ((b : Int) - (k : Int))) (y + ((a : Int) - (k : Int))) (dkQ li (max ((b : Int) - (k : Int)).natAbs ((a : Int) - (k : Int)).natAbs)) s) s (2 * k + 1)
def sqF (n : Nat) (x y : Int) (k li : Nat) (s : GS) : GS := itN (fun a s => sqR n x y k li a s) s (2 * k + 1)
theorem m_absN {z : Int} {M : im_M} (h : -1000 ≤ z ∧ z < 1000) : f_Math_abs (iZ z) M = some (nI z.natAbs) := by
  unfold f_Math_abs
  have k : ((0 : Int32) ≤ iZ z) = (0 ≤ z) := iZ_le (a := 0) (by omega) (by omega)
  simp only [k]
  by_cases c : 0 ≤ z
  · rw [if_pos c, iZ_nI, Int.natAbs_of_nonneg c]
  · rw [if_neg c, iZ_neg, iZ_nI]
    congr 2
    omega
theorem m_maxN {a b : Nat} {M : im_M} (ha : a < 2147483648) (hb : b < 2147483648) : f_Math_max (nI a) (nI b) M = some (nI (max a b)) := by
  unfold f_Math_max
  rw [if_nIlt ha hb]
  by_cases c : a < b
  · rw [if_pos c, Nat.max_eq_right (by omega)]
  · rw [if_neg c, Nat.max_eq_left (by omega)]
theorem m_greater {y z : Int} {M : im_M} (h : -1000 ≤ z ∧ z < 1000) (h2 : -1000 ≤ y ∧ y < 1000) : f_MSquareRows_greater (iZ z) (iZ y) M = some (nI (max z.natAbs y.natAbs)) := by
  unfold f_MSquareRows_greater
  have k : ∀ w : Int, -1000 ≤ w ∧ w < 1000 → ((if (0 : Int32) ≤ iZ w then iZ w else -iZ w) : Int32) = nI w.natAbs := fun w hw => by
    have k : ((0 : Int32) ≤ iZ w) = (0 ≤ w) := iZ_le (a := 0) (by omega) (by omega)
    simp only [k]
    by_cases c : 0 ≤ w
    · rw [if_pos c, iZ_nI, Int.natAbs_of_nonneg c]
    · rw [if_neg c, iZ_neg, iZ_nI]
      congr 1
      omega
  rw [k z h, k y h2, if_nIl (by omega) (by omega)]
  by_cases c : z.natAbs ≤ y.natAbs
  · rw [if_pos c, Nat.max_eq_right c]
  · rw [if_neg c, Nat.max_eq_left (by omega)]
theorem s_squaresC {M0 M : im_M} {n v k li : Nat} {x y : Int} {s : GS} (h : CG M0 M n v s) (hn : n ≤ 177) (hk : k ≤ 4) (hl : li ≤ 4) (hx : -10 ≤ x ∧ x ≤ 200) (hy : -10 ≤ y ∧ y ≤ 200) : ed (f_HGrid_fixSquares (iZ x) (iZ y) (nI k) (nI li) M) (fun R => CG M0 R n v (sqF n x y k li s)) := by
  unfold f_HGrid_fixSquares
  have e0 : -nI k = iZ (((0 : Nat) : Int) - (k : Int)) := by rw [iZ_nI, iZ_neg]; congr 1; omega
  rw [e0]
  apply bd1_mk
  refine ed_mono (lp_for (S := GS) (fun a s (t : Int32 × im_M) => t.1 = iZ ((a : Int) - (k : Int)) ∧ CG M0 t.2 n v s) (Q := fun s R => CG M0 R n v s) (2 * k + 1) (fun a s => sqR n x y k li a s) ?_ ?_ ⟨rfl, h⟩) (fun R h => ed_mk h)
  · rintro a s ⟨x6, M7⟩ ha ⟨e1, h7⟩
    replace e1 : x6 = iZ ((a : Int) - (k : Int)) := e1
    replace h7 : CG M0 M7 n v s := h7
    subst e1
    show ed (f_HGrid_fixSquares_L4 (iZ x) (iZ y) (nI k) (nI li) (iZ ((a : Int) - (k : Int))) M7) _
    unfold f_HGrid_fixSquares_L4
    have k0 : (nI k < iZ ((a : Int) - (k : Int))) = ((k : Int) < (a : Int) - (k : Int)) := by rw [iZ_nI, iZ_lt (by omega) (by omega)]
    simp only [k0]
    rw [if_neg (by omega), e0]
    apply bd1_mk
    refine ed_mono (lp_for (S := GS) (fun b s (t : Int32 × im_M) => t.1 = iZ ((b : Int) - (k : Int)) ∧ CG M0 t.2 n v s) (Q := fun s R => CG M0 R n v s) (2 * k + 1) (fun b s => fx n (x + ((b : Int) - (k : Int))) (y + ((a : Int) - (k : Int))) (dkQ li (max ((b : Int) - (k : Int)).natAbs ((a : Int) - (k : Int)).natAbs)) s) ?_ ?_ ⟨rfl, h7⟩) ?_
    · rintro b s ⟨x14, M15⟩ hb ⟨e1, h15⟩
      replace e1 : x14 = iZ ((b : Int) - (k : Int)) := e1
      replace h15 : CG M0 M15 n v s := h15
      subst e1
      show ed (f_HGrid_fixSquares_L14 (iZ x) (iZ y) (nI k) (nI li) (iZ ((a : Int) - (k : Int))) (iZ ((b : Int) - (k : Int))) M15) _
      unfold f_HGrid_fixSquares_L14
      obtain ⟨dx, hdx⟩ : ∃ dx : Int, dx = (b : Int) - (k : Int) := ⟨_, rfl⟩
      obtain ⟨dy, hdy⟩ : ∃ dy : Int, dy = (a : Int) - (k : Int) := ⟨_, rfl⟩
      have e2 : iZ dx + 1 = iZ (((b + 1 : Nat) : Int) - (k : Int)) := by
        rw [show (1 : Int32) = iZ 1 from rfl, iZ_add]
        congr 1
        omega
      rw [← hdx, ← hdy]
      have k1 : (nI k < iZ dx) = ((k : Int) < dx) := by rw [iZ_nI, iZ_lt (by omega) (by omega)]
      have dm : max dx.natAbs dy.natAbs ≤ 4 := by omega
      have kl : (nI (max dx.natAbs dy.natAbs) = nI li) = (max dx.natAbs dy.natAbs = li) := nIe (by omega) (by omega)
      have k4 : (nI (max dx.natAbs dy.natAbs) = 4) = (max dx.natAbs dy.natAbs = 4) := nIe (c := 4) (by omega) (by omega)
      simp only [k1]
      rw [if_neg (by omega), m_absN (by omega), bd1_s, m_absN (by omega), bd1_s, m_maxN (by omega) (by omega), bd1_s, h15.1, iZ_add, iZ_add, e2]
      have k5 : (iZ (x + dx) < 0) = (x + dx < 0) := iZ_lt (b := 0) (by omega) (by omega)
      have k6 : (iZ (y + dy) < 0) = (y + dy < 0) := iZ_lt (b := 0) (by omega) (by omega)
      have k7 : (nI n ≤ iZ (x + dx)) = ((n : Int) ≤ x + dx) := by rw [iZ_nI, iZ_le (by omega) (by omega)]
      have k8 : (nI n ≤ iZ (y + dy)) = ((n : Int) ≤ y + dy) := by rw [iZ_nI, iZ_le (by omega) (by omega)]
      have hb2 : ((if nI (max dx.natAbs dy.natAbs) = nI li then (0 : Int32) else (if nI (max dx.natAbs dy.natAbs) = 4 then 0 else 1)) = 0) = (dkQ li (max dx.natAbs dy.natAbs) = false) := by
        unfold dkQ
        simp only [kl, k4]
        by_cases z : max dx.natAbs dy.natAbs = li
        · rw [if_pos z, decide_eq_true z]
          exact propext ⟨fun _ => rfl, fun _ => rfl⟩
        · rw [if_neg z, decide_eq_false z]
          by_cases w : max dx.natAbs dy.natAbs = 4
          · rw [if_pos w, decide_eq_true w]
            exact propext ⟨fun _ => rfl, fun _ => rfl⟩
          · rw [if_neg w, decide_eq_false w]
            exact propext ⟨fun z => absurd z (by decide), fun z => by cases z⟩
      have hw : ((if iZ (x + dx) < 0 then (0 : Int32) else (if nI n ≤ iZ (x + dx) then 0 else (if iZ (y + dy) < 0 then 0 else (if nI n ≤ iZ (y + dy) then 0 else 1)))) = 0) = ¬ (0 ≤ x + dx ∧ x + dx < (n : Int) ∧ 0 ≤ y + dy ∧ y + dy < (n : Int)) := by
        simp only [k5, k6, k7, k8]
        by_cases a1 : x + dx < 0
        · rw [if_pos a1]; exact propext ⟨fun _ z => by omega, fun _ => rfl⟩
        · rw [if_neg a1]
          by_cases a3 : (n : Int) ≤ x + dx
          · rw [if_pos a3]; exact propext ⟨fun _ z => by omega, fun _ => rfl⟩
          · rw [if_neg a3]
            by_cases a2 : y + dy < 0
            · rw [if_pos a2]; exact propext ⟨fun _ z => by omega, fun _ => rfl⟩
            · rw [if_neg a2]
              by_cases a4 : (n : Int) ≤ y + dy
              · rw [if_pos a4]; exact propext ⟨fun _ z => by omega, fun _ => rfl⟩
              · rw [if_neg a4]; exact propext ⟨fun z => absurd z (by decide), fun z => absurd ⟨by omega, by omega, by omega, by omega⟩ z⟩
      apply bd1_mk
      refine ed_mono (P := fun R => CG M0 R n v (fx n (x + dx) (y + dy) (dkQ li (max dx.natAbs dy.natAbs)) s)) ?_ (fun R hR => ed_mk ⟨_, rfl, rfl, hR⟩)
      by_cases c : 0 ≤ x + dx ∧ x + dx < (n : Int) ∧ 0 ≤ y + dy ∧ y + dy < (n : Int)
      · rw [if_neg (fun z => by rw [hw] at z; exact z c)]
        apply bd1_mk
        exact ed_mono (s_fixC h15 hn ⟨c.1, c.2.1⟩ ⟨c.2.2.1, c.2.2.2⟩ hb2) (fun R hR => ed_mk hR)
      · rw [if_pos (by rw [hw]; exact c)]
        unfold fx
        rw [if_neg c]
        exact ed_mk h15
    · rintro s ⟨x14, M15⟩ ⟨e1, h15⟩
      replace e1 : x14 = iZ (((2 * k + 1 : Nat) : Int) - (k : Int)) := e1
      subst e1
      show ed (f_HGrid_fixSquares_L14 (iZ x) (iZ y) (nI k) (nI li) (iZ ((a : Int) - (k : Int))) (iZ (((2 * k + 1 : Nat) : Int) - (k : Int))) M15) _
      unfold f_HGrid_fixSquares_L14
      rw [if_pos (by rw [iZ_nI, iZ_lt (by omega) (by omega)]; omega)]
      exact ed_mk ⟨_, rfl, h15⟩
    · intro R hR
      refine ed_mk ⟨_, rfl, ?_, hR⟩
      show iZ ((a : Int) - (k : Int)) + 1 = iZ (((a + 1 : Nat) : Int) - (k : Int))
      rw [show (1 : Int32) = iZ 1 from rfl, iZ_add]
      congr 1
      omega
  · rintro s ⟨x6, M7⟩ ⟨e1, h7⟩
    replace e1 : x6 = iZ (((2 * k + 1 : Nat) : Int) - (k : Int)) := e1
    subst e1
    show ed (f_HGrid_fixSquares_L4 (iZ x) (iZ y) (nI k) (nI li) (iZ (((2 * k + 1 : Nat) : Int) - (k : Int))) M7) _
    unfold f_HGrid_fixSquares_L4
    rw [if_pos (by rw [iZ_nI, iZ_lt (by omega) (by omega)]; omega)]
    exact ed_mk ⟨_, rfl, h7⟩
theorem s_squaresR {M0 M : im_M} {n k li : Nat} {x y : Int} {fi : Int32} {s : GS} (h : RGs M0 M n s) (hn : n ≤ 177) (hf : (fi = 1 ∧ li = 2 ∧ k = 4) ∨ (fi = 0 ∧ li = 1 ∧ k = 2)) (hx : -10 ≤ x ∧ x ≤ 200) (hy : -10 ≤ y ∧ y ≤ 200) : ed (f_MSquareRows_square (iZ x) (iZ y) (nI k) fi M) (fun R => RGs M0 R n (sqF n x y k li s)) := by
  have hk : k ≤ 4 := by rcases hf with z | z <;> omega
  unfold f_MSquareRows_square
  have e0 : -nI k = iZ (((0 : Nat) : Int) - (k : Int)) := by rw [iZ_nI, iZ_neg]; congr 1; omega
  rw [e0]
  apply bd1_mk
  refine ed_mono (lp_for (S := GS) (fun a s (t : Int32 × im_M) => t.1 = iZ ((a : Int) - (k : Int)) ∧ RGs M0 t.2 n s) (Q := fun s R => RGs M0 R n s) (2 * k + 1) (fun a s => sqR n x y k li a s) ?_ ?_ ⟨rfl, h⟩) (fun R h => ed_mk h)
  · rintro a s ⟨x6, M7⟩ ha ⟨e1, h7⟩
    replace e1 : x6 = iZ ((a : Int) - (k : Int)) := e1
    replace h7 : RGs M0 M7 n s := h7
    subst e1
    show ed (f_MSquareRows_square_L4 (iZ x) (iZ y) (nI k) fi (iZ ((a : Int) - (k : Int))) M7) _
    unfold f_MSquareRows_square_L4
    have k0 : (nI k < iZ ((a : Int) - (k : Int))) = ((k : Int) < (a : Int) - (k : Int)) := by rw [iZ_nI, iZ_lt (by omega) (by omega)]
    simp only [k0]
    rw [if_neg (by omega), e0]
    apply bd1_mk
    refine ed_mono (lp_for (S := GS) (fun b s (t : Int32 × im_M) => t.1 = iZ ((b : Int) - (k : Int)) ∧ RGs M0 t.2 n s) (Q := fun s R => RGs M0 R n s) (2 * k + 1) (fun b s => fx n (x + ((b : Int) - (k : Int))) (y + ((a : Int) - (k : Int))) (dkQ li (max ((b : Int) - (k : Int)).natAbs ((a : Int) - (k : Int)).natAbs)) s) ?_ ?_ ⟨rfl, h7⟩) ?_
    · rintro b s ⟨x14, M15⟩ hb ⟨e1, h15⟩
      replace e1 : x14 = iZ ((b : Int) - (k : Int)) := e1
      replace h15 : RGs M0 M15 n s := h15
      subst e1
      show ed (f_MSquareRows_square_L14 (iZ x) (iZ y) (nI k) fi (iZ ((a : Int) - (k : Int))) (iZ ((b : Int) - (k : Int))) M15) _
      unfold f_MSquareRows_square_L14
      obtain ⟨dx, hdx⟩ : ∃ dx : Int, dx = (b : Int) - (k : Int) := ⟨_, rfl⟩
      obtain ⟨dy, hdy⟩ : ∃ dy : Int, dy = (a : Int) - (k : Int) := ⟨_, rfl⟩
      have e2 : iZ dx + 1 = iZ (((b + 1 : Nat) : Int) - (k : Int)) := by
        rw [show (1 : Int32) = iZ 1 from rfl, iZ_add]
        congr 1
        omega
      rw [← hdx, ← hdy]
      have k1 : (nI k < iZ dx) = ((k : Int) < dx) := by rw [iZ_nI, iZ_lt (by omega) (by omega)]
      have dm : max dx.natAbs dy.natAbs ≤ k := by omega
      have kl : ∀ c : Nat, c < 10 → (nI (max dx.natAbs dy.natAbs) = nI c) = (max dx.natAbs dy.natAbs = c) := fun c hc => nIe (by omega) (by omega)
      have kk1 : (nI (max dx.natAbs dy.natAbs) = 1) = (max dx.natAbs dy.natAbs = 1) := kl 1 (by omega)
      have kk2 : (nI (max dx.natAbs dy.natAbs) = 2) = (max dx.natAbs dy.natAbs = 2) := kl 2 (by omega)
      have kk4 : (nI (max dx.natAbs dy.natAbs) = 4) = (max dx.natAbs dy.natAbs = 4) := kl 4 (by omega)
      simp only [k1]
      rw [if_neg (by omega), m_greater (by omega) (by omega), bd1_s, iZ_add, iZ_add, e2]
      have hb2 : ((if fi = 0 then (if nI (max dx.natAbs dy.natAbs) = 1 then (0 : Int32) else 1) else (if nI (max dx.natAbs dy.natAbs) = 2 then 0 else (if nI (max dx.natAbs dy.natAbs) = 4 then 0 else 1))) = 0) = (dkQ li (max dx.natAbs dy.natAbs) = false) := by
        unfold dkQ
        simp only [kk1, kk2, kk4]
        rcases hf with ⟨f1, f2, f3⟩ | ⟨f1, f2, f3⟩
        · rw [f1, f2, if_neg (by decide)]
          by_cases z : max dx.natAbs dy.natAbs = 2
          · rw [if_pos z, decide_eq_true z]
            exact propext ⟨fun _ => rfl, fun _ => rfl⟩
          · rw [if_neg z, decide_eq_false z]
            by_cases w : max dx.natAbs dy.natAbs = 4
            · rw [if_pos w, decide_eq_true w]
              exact propext ⟨fun _ => rfl, fun _ => rfl⟩
            · rw [if_neg w, decide_eq_false w]
              exact propext ⟨fun z => absurd z (by decide), fun z => by cases z⟩
        · rw [f1, f2, if_pos rfl, decide_eq_false (show ¬ max dx.natAbs dy.natAbs = 4 by omega)]
          by_cases z : max dx.natAbs dy.natAbs = 1
          · rw [if_pos z, decide_eq_true z]
            exact propext ⟨fun _ => rfl, fun _ => rfl⟩
          · rw [if_neg z, decide_eq_false z]
            exact propext ⟨fun z => absurd z (by decide), fun z => by cases z⟩
      apply bd1_mk
      refine ed_mono (s_fixR h15 hn (by omega) (by omega) hb2) (fun R hR => ed_mk ⟨_, rfl, rfl, hR⟩)
    · rintro s ⟨x14, M15⟩ ⟨e1, h15⟩
      replace e1 : x14 = iZ (((2 * k + 1 : Nat) : Int) - (k : Int)) := e1
      subst e1
      show ed (f_MSquareRows_square_L14 (iZ x) (iZ y) (nI k) fi (iZ ((a : Int) - (k : Int))) (iZ (((2 * k + 1 : Nat) : Int) - (k : Int))) M15) _
      unfold f_MSquareRows_square_L14
      rw [if_pos (by rw [iZ_nI, iZ_lt (by omega) (by omega)]; omega)]
      exact ed_mk ⟨_, rfl, h15⟩
    · intro R hR
      refine ed_mk ⟨_, rfl, ?_, hR⟩
      show iZ ((a : Int) - (k : Int)) + 1 = iZ (((a + 1 : Nat) : Int) - (k : Int))
      rw [show (1 : Int32) = iZ 1 from rfl, iZ_add]
      congr 1
      omega
  · rintro s ⟨x6, M7⟩ ⟨e1, h7⟩
    replace e1 : x6 = iZ (((2 * k + 1 : Nat) : Int) - (k : Int)) := e1
    subst e1
    show ed (f_MSquareRows_square_L4 (iZ x) (iZ y) (nI k) fi (iZ (((2 * k + 1 : Nat) : Int) - (k : Int))) M7) _
    unfold f_MSquareRows_square_L4
    rw [if_pos (by rw [iZ_nI, iZ_lt (by omega) (by omega)]; omega)]
    exact ed_mk ⟨_, rfl, h7⟩
