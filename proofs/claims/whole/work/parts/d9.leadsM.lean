/-! THE REFERENCE'S ORDER -/
def df0 (k l : Nat) : Int := if ¬ ((ky k : Int) - (ky l : Int)) = 0 then (ky k : Int) - (ky l : Int) else (kx k : Int) - (kx l : Int)
def df1 (k l : Nat) : Int := if ¬ df0 k l = 0 then df0 k l else (km k : Int) - (km l : Int)
def df2 (k l : Nat) : Int := if ¬ df1 k l = 0 then df1 k l else (kv k : Int) - (kv l : Int)
def df3 (k l : Nat) : Int := if ¬ df2 k l = 0 then df2 k l else (kq k : Int) - (kq l : Int)
def dfE (k l t : Nat) : Int := if t = 0 then df0 k l else if t = 1 then df1 k l else if t = 2 then df2 k l else df3 k l
theorem dfE_b {k l : Nat} (hk : ky k < 512) (hl : ky l < 512) : ∀ t, t ≤ 3 → -1000 ≤ dfE k l t ∧ dfE k l t ≤ 1000 := by
  have a1 := kx_lt (k := k)
  have a2 := kx_lt (k := l)
  have a3 := km_lt (k := k)
  have a4 := km_lt (k := l)
  have a5 := kv_lt (k := k)
  have a6 := kv_lt (k := l)
  have a7 := kq_lt (k := k)
  have a8 := kq_lt (k := l)
  have h0 : -1000 ≤ df0 k l ∧ df0 k l ≤ 1000 := by unfold df0; split <;> omega
  have h1 : -1000 ≤ df1 k l ∧ df1 k l ≤ 1000 := by unfold df1; split <;> omega
  have h2 : -1000 ≤ df2 k l ∧ df2 k l ≤ 1000 := by unfold df2; split <;> omega
  have h3 : -1000 ≤ df3 k l ∧ df3 k l ≤ 1000 := by unfold df3; split <;> omega
  intro t ht
  have : t = 0 ∨ t = 1 ∨ t = 2 ∨ t = 3 := by omega
  rcases this with rfl | rfl | rfl | rfl
  · exact h0
  · exact h1
  · exact h2
  · exact h3
theorem dfE_lt {k l : Nat} : dfE k l 3 < 0 ↔ k < l := by
  rw [key_lt]
  have e0 : dfE k l 0 = if ¬ ((ky k : Int) - (ky l : Int)) = 0 then (ky k : Int) - (ky l : Int) else (kx k : Int) - (kx l : Int) := rfl
  have e1 : dfE k l 1 = if ¬ dfE k l 0 = 0 then dfE k l 0 else (km k : Int) - (km l : Int) := rfl
  have e2 : dfE k l 2 = if ¬ dfE k l 1 = 0 then dfE k l 1 else (kv k : Int) - (kv l : Int) := rfl
  have e3 : dfE k l 3 = if ¬ dfE k l 2 = 0 then dfE k l 2 else (kq k : Int) - (kq l : Int) := rfl
  by_cases c0 : ((ky k : Int) - (ky l : Int)) = 0
  · rw [if_neg (fun z => z c0)] at e0
    by_cases c1 : ((kx k : Int) - (kx l : Int)) = 0
    · rw [if_neg (by rw [e0]; exact fun z => z c1)] at e1
      by_cases c2 : ((km k : Int) - (km l : Int)) = 0
      · rw [if_neg (by rw [e1]; exact fun z => z c2)] at e2
        by_cases c3 : ((kv k : Int) - (kv l : Int)) = 0
        · rw [if_neg (by rw [e2]; exact fun z => z c3)] at e3
          omega
        · rw [if_pos (by rw [e2]; exact c3)] at e3
          omega
      · rw [if_pos (by rw [e1]; exact c2)] at e2
        rw [if_pos (by rw [e2, e1]; exact c2)] at e3
        omega
    · rw [if_pos (by rw [e0]; exact c1)] at e1
      rw [if_pos (by rw [e1, e0]; exact c1)] at e2
      rw [if_pos (by rw [e2, e1, e0]; exact c1)] at e3
      omega
  · rw [if_pos c0] at e0
    rw [if_pos (by rw [e0]; exact c0)] at e1
    rw [if_pos (by rw [e1, e0]; exact c0)] at e2
    rw [if_pos (by rw [e2, e1, e0]; exact c0)] at e3
    omega
theorem s_before {M : im_M} {D : Nat → Nat → Bool} {i j k l : Nat} (hi : i < 300) (hj : j < 300) (hk : ky k < 512) (hl : ky l < 512) (ek : EN M D i k) (el : EN M D j l) : f_MPlaceRows_isBefore (nI i) (nI j) M = some (if k < l then 1 else 0) := by
  obtain ⟨k0, k1, k2, k3, k4, _⟩ := ek
  obtain ⟨l0, l1, l2, l3, l4, _⟩ := el
  have q : ∀ a t : Nat, (6 : Int32) * nI a + nI t = nI (6 * a + t) := fun a t => by rw [nI_m, nI_add]
  have q0 : ∀ a : Nat, (6 : Int32) * nI a = nI (6 * a) := fun a => nI_m 6
  have q1 : ∀ a : Nat, nI (6 * a) + 1 = nI (6 * a + 1) := fun a => nI_add _ 1
  have db := dfE_b hk hl
  have a1 := kx_lt (k := k)
  have a2 := kx_lt (k := l)
  unfold f_MPlaceRows_isBefore
  rw [q0, q0, q1, q1, gd_pos (by rw [inb_nI (by omega)]; omega), gd_pos (by rw [inb_nI (by omega)]; omega), nI_clamp (by omega), nI_clamp (by omega), nI_clamp (by omega), nI_clamp (by omega), k1, l1, k0, l0, iZ_nI (n := ky k), iZ_nI (n := ky l), iZ_nI (n := kx k), iZ_nI (n := kx l), iZ_sub, iZ_sub, gd_pos (by rw [inb_nI (by omega)]; omega), gd_pos (by rw [inb_nI (by omega)]; omega)]
  have z0 : ∀ a : Int, -1000 ≤ a ∧ a ≤ 1000 → (iZ a = 0) = (a = 0) := fun a ha => iZ_eq (b := 0) (by omega) (by omega)
  simp only [z0 ((ky k : Int) - (ky l : Int)) (by omega)]
  have h0 : (if ¬ ((ky k : Int) - (ky l : Int)) = 0 then some (iZ ((ky k : Int) - (ky l : Int))) else some (iZ ((kx k : Int) - (kx l : Int)))) = some (iZ (dfE k l 0)) := by
    show _ = some (iZ (df0 k l))
    unfold df0
    split <;> rfl
  rw [h0, bd1_s]
  have hlp : lp (uc2 (f_MPlaceRows_isBefore_L55 (nI i) (nI j) M)) (iZ (dfE k l 0), 2) = some (iZ (dfE k l 3)) := by
    refine lp_row (fun t => (iZ (dfE k l t), nI (2 + t))) 3 (fun t ht => ?_) ?_
    · show f_MPlaceRows_isBefore_L55 (nI i) (nI j) M (iZ (dfE k l t)) (nI (2 + t)) = some (.inl (iZ (dfE k l (t + 1)), nI (2 + (t + 1))))
      unfold f_MPlaceRows_isBefore_L55
      have c5 : ((5 : Int32) ≤ nI (2 + t)) = (5 ≤ 2 + t) := nIl (x := 5) (by omega) (by omega)
      have dt := db t (by omega)
      simp only [c5, z0 (dfE k l t) dt]
      rw [if_neg (by omega), q, q, gd_pos (by rw [inb_nI (by omega)]; omega), gd_pos (by rw [inb_nI (by omega)]; omega), nI_clamp (by omega), nI_clamp (by omega)]
      have hv : ∃ A B : Nat, im_i M 134 (6 * i + (2 + t)) = nI A ∧ im_i M 134 (6 * j + (2 + t)) = nI B ∧ dfE k l (t + 1) = if ¬ dfE k l t = 0 then dfE k l t else (A : Int) - (B : Int) := by
        have : t = 0 ∨ t = 1 ∨ t = 2 := by omega
        rcases this with rfl | rfl | rfl
        · exact ⟨_, _, k2, l2, rfl⟩
        · exact ⟨_, _, k3, l3, rfl⟩
        · exact ⟨_, _, k4, l4, rfl⟩
      obtain ⟨A, B, eA, eB, eD⟩ := hv
      rw [eA, eB, iZ_nI (n := A), iZ_nI (n := B), iZ_sub, eD]
      have h1 : nI (2 + t) + 1 = nI (2 + (t + 1)) := nI_add _ 1
      by_cases c : dfE k l t = 0
      · rw [if_neg (fun z => z c), if_neg (fun z => z c), bd1_s, h1]
      · rw [if_pos c, if_pos c, bd1_s, h1]
    · show f_MPlaceRows_isBefore_L55 (nI i) (nI j) M (iZ (dfE k l 3)) (nI (2 + 3)) = _
      unfold f_MPlaceRows_isBefore_L55
      rw [if_pos (by decide)]
  rw [hlp, bd1_s]
  have d3 := db 3 (by omega)
  have le0 : ((0 : Int32) ≤ iZ (dfE k l 3)) = (0 ≤ dfE k l 3) := iZ_le (a := 0) (by omega) (by omega)
  simp only [le0]
  have := dfE_lt (k := k) (l := l)
  by_cases c : k < l
  · rw [if_pos c, if_neg (by omega)]
  · rw [if_neg c, if_pos (by omega)]
theorem s_meet {M : im_M} {W H lo hi lim i j k l : Nat} {D : Nat → Nat → Bool} (hW : W ≤ 512) (hH : H ≤ 512) (h3i : i < 300) (h3j : j < 300) (hk : StP W H D lo hi lim k) (hl : StP W H D lo hi lim l) (ek : EN M D i k) (el : EN M D j l) : ∃ b : Int32, f_MPlaceRows_meet (nI i) (nI j) M = some b ∧ (¬ b = 0 ↔ mt k l) := by
  obtain ⟨k0, k1, k2, k3, k4, _⟩ := ek
  obtain ⟨l0, l1, l2, l3, l4, _⟩ := el
  have bi := hk.2.2.1
  have bj := hl.2.2.1
  have e17 : ∀ v : Nat, (17 : Int32) + (4 : Int32) * nI v = nI (17 + 4 * v) := fun v => by rw [nI_m, nI_n, nI_add]
  have q0 : ∀ a : Nat, (6 : Int32) * nI a = nI (6 * a) := fun a => nI_m 6
  have q1 : ∀ a : Nat, nI (6 * a) + 1 = nI (6 * a + 1) := fun a => nI_add _ 1
  have q2 : ∀ a : Nat, nI (6 * a) + 2 = nI (6 * a + 2) := fun a => nI_add _ 2
  have q3 : ∀ a : Nat, nI (6 * a) + 3 = nI (6 * a + 3) := fun a => nI_add _ 3
  have kc : ∀ a t : Nat, a < 300 → t < 6 → Int32.toNatClampNeg (nI (6 * a + t)) = 6 * a + t := fun a t h1 h2 => nI_clamp (by omega)
  have kc0 : ∀ a : Nat, a < 300 → Int32.toNatClampNeg (nI (6 * a)) = 6 * a := fun a h1 => nI_clamp (by omega)
  have gg : ∀ {Y : Type} (o : Option Y) (a t : Nat), a < 300 → t < 6 → gd (inb (nI (6 * a + t)) 1800) o = o := fun o a t h1 h2 => gd_pos (by rw [inb_nI (by omega)]; omega)
  have gg0 : ∀ {Y : Type} (o : Option Y) (a : Nat), a < 300 → gd (inb (nI (6 * a)) 1800) o = o := fun o a h1 => gd_pos (by rw [inb_nI (by omega)]; omega)
  unfold f_MPlaceRows_meet f_MPlaceRows_side
  simp only [q0, q1, q2, q3, kc i 1 h3i (by omega), kc i 2 h3i (by omega), kc i 3 h3i (by omega), kc j 1 h3j (by omega), kc j 2 h3j (by omega), kc j 3 h3j (by omega), kc0 i h3i, kc0 j h3j, k0, k1, k2, k3, l0, l1, l2, l3, bd1_s, e17, nI_mul, nI_add, gg _ i 1 h3i (by omega), gg _ i 2 h3i (by omega), gg _ i 3 h3i (by omega), gg _ j 1 h3j (by omega), gg _ j 2 h3j (by omega), gg _ j 3 h3j (by omega), gg0 _ i h3i, gg0 _ j h3j]
  have kI : km k * (17 + 4 * kv k) = ksz k := rfl
  have kJ : km l * (17 + 4 * kv l) = ksz l := rfl
  rw [kI, kJ, if_nIl (by omega) (by omega), if_nIl (by omega) (by omega), if_nIl (by omega) (by omega), if_nIl (by omega) (by omega)]
  unfold mt
  by_cases c1 : kx l + ksz l ≤ kx k
  · rw [if_pos c1]; exact ⟨0, rfl, ⟨fun z => absurd rfl z, fun z => by omega⟩⟩
  · rw [if_neg c1]
    by_cases c2 : kx k + ksz k ≤ kx l
    · rw [if_pos c2]; exact ⟨0, rfl, ⟨fun z => absurd rfl z, fun z => by omega⟩⟩
    · rw [if_neg c2]
      by_cases c3 : ky l + ksz l ≤ ky k
      · rw [if_pos c3]; exact ⟨0, rfl, ⟨fun z => absurd rfl z, fun z => by omega⟩⟩
      · rw [if_neg c3]
        by_cases c4 : ky k + ksz k ≤ ky l
        · rw [if_pos c4]; exact ⟨0, rfl, ⟨fun z => absurd rfl z, fun z => by omega⟩⟩
        · rw [if_neg c4]; exact ⟨1, rfl, ⟨fun _ => by omega, fun _ => by decide⟩⟩
/-- the places that stand, held so -/
def SN (M : im_M) (W H : Nat) (D : Nat → Nat → Bool) (lo hi lim n : Nat) (f : Nat → Nat) : Prop := (W ≤ 512 ∧ H ≤ 512 ∧ 1 ≤ lo ∧ lim ≤ 500) ∧ n ≤ 300 ∧ im_i M 130 8 = nI n ∧ ijc f n ∧ (∀ k, StP W H D lo hi lim k ↔ ∃ i, i < n ∧ f i = k) ∧ ∀ i, i < n → EN M D i (f i)
theorem s_leadsM {M : im_M} {W H lo hi lim n i : Nat} {D : Nat → Nat → Bool} {f : Nat → Nat} (h : SN M W H D lo hi lim n f) (hin : i < n) : ∃ b : Int32, f_MPlaceRows_leads (nI i) M = some b ∧ (¬ b = 0 ↔ ld D (StP W H D lo hi lim) (f i)) := by
  obtain ⟨⟨hW, hH, hlo, hlim⟩, hn, h8, hf, hS, hE⟩ := h
  have hSi : ∀ i, i < n → StP W H D lo hi lim (f i) := fun i hi => (hS _).mpr ⟨i, hi, rfl⟩
  have eb : ∀ i, i < n → 0 ≤ eW D (f i) ∧ eW D (f i) ≤ 500 := fun i hi => ⟨eW_nn (hSi i hi).2.1.1, by have := (hSi i hi).2.2.2; omega⟩
  have q5 : ∀ a : Nat, (6 : Int32) * nI a + 5 = nI (6 * a + 5) := fun a => by rw [nI_m]; exact nI_add _ 5
  unfold f_MPlaceRows_leads
  have L : ed (lp (uc1 (f_MPlaceRows_leads_L2 (nI i) M)) 0) (sQ (fun _ => ∀ j, j < n → ¬ (bt D (f j) (f i) ∧ mt (f i) (f j))) (fun t => t = 0 ∧ ∃ j, j < n ∧ bt D (f j) (f i) ∧ mt (f i) (f j))) := by
    refine lp_inv (fun k (s : Int32) => ∃ j : Nat, j + k = n ∧ s = nI j ∧ ∀ a, a < j → ¬ (bt D (f a) (f i) ∧ mt (f i) (f a))) ?_ (k := n) ⟨0, by omega, rfl, fun a ha => absurd ha (by omega)⟩
    rintro k x3 ⟨j, hj, e1, hb⟩
    subst e1
    show ed (f_MPlaceRows_leads_L2 (nI i) M (nI j)) _
    unfold f_MPlaceRows_leads_L2
    rw [h8, if_nIl (by omega) (by omega)]
    by_cases c : n ≤ j
    · rw [if_pos c]
      exact lpo_r (fun a ha => hb a (by omega))
    · have bi := eb i hin
      have bj := eb j (by omega)
      rw [if_neg c, q5, q5, gd_pos (by rw [inb_nI (by omega)]; omega), gd_pos (by rw [inb_nI (by omega)]; omega), nI_clamp (by omega), nI_clamp (by omega), (hE j (by omega)).2.2.2.2.2, (hE i hin).2.2.2.2.2, iZ_sub]
      have nx : ¬ (bt D (f j) (f i) ∧ mt (f i) (f j)) → ed (some (Sum.inl (nI j + 1))) (lpo (fun k (s : Int32) => ∃ j : Nat, j + k = n ∧ s = nI j ∧ ∀ a, a < j → ¬ (bt D (f a) (f i) ∧ mt (f i) (f a))) (sQ (fun _ : Unit => ∀ j, j < n → ¬ (bt D (f j) (f i) ∧ mt (f i) (f j))) (fun t : Int32 => t = 0 ∧ ∃ j, j < n ∧ bt D (f j) (f i) ∧ mt (f i) (f j))) k) := fun z => lpo_l (k - 1) (by omega) ⟨j + 1, by omega, nI_add j 1, fun a ha => by
        by_cases e : a = j
        · rw [e]; exact z
        · exact hb a (by omega)⟩
      show ed (if nI j = nI i then _ else _) _
      rw [if_nIe (by omega) (by omega)]
      by_cases c1 : j = i
      · rw [if_pos c1]
        refine nx ?_
        rintro ⟨a | ⟨_, a⟩, _⟩
        · rw [c1] at a; omega
        · rw [c1] at a; omega
      · obtain ⟨b, eb1, eb2⟩ := s_meet hW hH (show i < 300 by omega) (show j < 300 by omega) (hSi i hin) (hSi j (by omega)) (hE i hin) (hE j (by omega))
        rw [if_neg c1, eb1, bd1_s]
        by_cases c2 : b = 0
        · rw [if_pos c2]
          exact nx (fun z => eb2.mpr z.2 c2)
        · have hmt := eb2.mp c2
          have lt0 : (iZ (eW D (f j) - eW D (f i)) < 0) = (eW D (f j) - eW D (f i) < 0) := iZ_lt (b := 0) (by omega) (by omega)
          have eq0 : (iZ (eW D (f j) - eW D (f i)) = 0) = (eW D (f j) - eW D (f i) = 0) := iZ_eq (b := 0) (by omega) (by omega)
          rw [if_neg c2]
          simp only [lt0, eq0]
          by_cases c3 : eW D (f j) - eW D (f i) < 0
          · rw [if_pos c3]
            exact lpo_r ⟨rfl, j, by omega, Or.inl (by omega), hmt⟩
          · rw [if_neg c3]
            by_cases c4 : eW D (f j) - eW D (f i) = 0
            · rw [if_neg (fun z => z c4), s_before (by omega) (by omega) (StP_y (hSi j (by omega)) hH hlo) (StP_y (hSi i hin) hH hlo) (hE j (by omega)) (hE i hin), bd1_s]
              by_cases c5 : f j < f i
              · rw [if_pos c5, if_neg (by decide)]
                exact lpo_r ⟨rfl, j, by omega, Or.inr ⟨by omega, c5⟩, hmt⟩
              · rw [if_neg c5, if_pos rfl]
                refine nx ?_
                rintro ⟨a | ⟨_, a⟩, _⟩
                · omega
                · exact c5 a
            · rw [if_pos c4]
              refine nx ?_
              rintro ⟨a | ⟨a, _⟩, _⟩
              · omega
              · omega
  obtain ⟨u, eu, hu⟩ := L
  rw [eu]
  cases u with
  | inl t =>
    refine ⟨1, rfl, ⟨fun _ => ⟨hSi i hin, fun l hl z => ?_⟩, fun _ => by decide⟩⟩
    obtain ⟨j, hj, e⟩ := (hS l).mp hl
    subst e
    exact hu j hj z
  | inr t =>
    obtain ⟨e, j, hj, z⟩ := hu
    refine ⟨t, rfl, ⟨fun q => absurd e q, fun q => absurd z (q.2 (f j) (hSi j hj))⟩⟩
