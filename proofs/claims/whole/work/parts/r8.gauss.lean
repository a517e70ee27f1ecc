/-! EQUATIONS, SOLVED BY THE REFERENCE -/
def KRn (A : Nat → Nat → Fin 256) (n : Nat) (x : Nat → Fin 256) : Prop := ∀ r, r < n → zS (fun k => gx (A r k) (x k)) (n + 1) = 0
def NSg (A : Nat → Nat → Fin 256) (n : Nat) : Prop := ∀ x : Nat → Fin 256, x n = 0 → KRn A n x → ∀ k, k < n → x k = 0
def swp (A : Nat → Nat → Fin 256) (r c i : Nat) : Nat → Fin 256 := if i = r then A c else if i = c then A r else A i
def scl (A : Nat → Nat → Fin 256) (c : Nat) (b : Fin 256) (i k : Nat) : Fin 256 := if i = c then gx (A i k) b else A i k
def elm (A : Nat → Nat → Fin 256) (c i k : Nat) : Fin 256 := if i = c then A i k else ga (A i k) (gx (A i c) (A c k))
theorem KRn_congr {A B : Nat → Nat → Fin 256} {n : Nat} {x : Nat → Fin 256} (h : ∀ r k, r < n → k ≤ n → A r k = B r k) (q : KRn A n x) : KRn B n x := fun r hr => by
  rw [← q r hr]
  exact zS_congr _ (fun k hk => by rw [h r k hr (by omega)])
theorem KRn_swp {A : Nat → Nat → Fin 256} {n r c : Nat} {x : Nat → Fin 256} (hr : r < n) (hc : c < n) : KRn (swp A r c) n x ↔ KRn A n x := by
  have e1 : swp A r c r = A c := if_pos rfl
  have e2 : swp A r c c = A r := by
    unfold swp
    by_cases d : c = r
    · rw [if_pos d, d]
    · rw [if_neg d, if_pos rfl]
  have e3 : ∀ i, i ≠ r → i ≠ c → swp A r c i = A i := fun i a b => by
    unfold swp
    rw [if_neg a, if_neg b]
  constructor
  · intro h i hi
    by_cases a : i = r
    · have := h c hc; rw [e2] at this; rw [a]; exact this
    · by_cases b : i = c
      · have := h r hr; rw [e1] at this; rw [b]; exact this
      · have := h i hi; rw [e3 i a b] at this; exact this
  · intro h i hi
    by_cases a : i = r
    · rw [a, e1]; exact h c hc
    · by_cases b : i = c
      · rw [b, e2]; exact h r hr
      · rw [e3 i a b]; exact h i hi
theorem KRn_scl {A : Nat → Nat → Fin 256} {n c : Nat} {b : Fin 256} {x : Nat → Fin 256} (hb : b ≠ 0) : KRn (scl A c b) n x ↔ KRn A n x := by
  have e : ∀ i, zS (fun k => gx (scl A c b i k) (x k)) (n + 1) = if i = c then gx b (zS (fun k => gx (A i k) (x k)) (n + 1)) else zS (fun k => gx (A i k) (x k)) (n + 1) := by
    intro i
    by_cases d : i = c
    · rw [if_pos d, zS_mul]
      refine zS_congr _ (fun k _ => ?_)
      unfold scl
      rw [if_pos d, gx_comm (A i k) b, gx_assoc]
    · rw [if_neg d]
      refine zS_congr _ (fun k _ => ?_)
      unfold scl
      rw [if_neg d]
  constructor
  · intro h i hi
    have := h i hi
    rw [e] at this
    by_cases d : i = c
    · rw [if_pos d] at this
      exact (gx_zero this).resolve_left hb
    · rw [if_neg d] at this; exact this
  · intro h i hi
    rw [e]
    by_cases d : i = c
    · rw [if_pos d, h i hi, gx_z]
    · rw [if_neg d]; exact h i hi
theorem KRn_elm {A : Nat → Nat → Fin 256} {n c : Nat} {x : Nat → Fin 256} (hc : c < n) : KRn (elm A c) n x ↔ KRn A n x := by
  have e : ∀ i, zS (fun k => gx (elm A c i k) (x k)) (n + 1) = if i = c then zS (fun k => gx (A i k) (x k)) (n + 1) else ga (zS (fun k => gx (A i k) (x k)) (n + 1)) (gx (A i c) (zS (fun k => gx (A c k) (x k)) (n + 1))) := by
    intro i
    by_cases d : i = c
    · rw [if_pos d]
      refine zS_congr _ (fun k _ => ?_)
      unfold elm
      rw [if_pos d]
    · rw [if_neg d, zS_mul, ← zS_add]
      refine zS_congr _ (fun k _ => ?_)
      unfold elm
      rw [if_neg d, gx_addr, gx_assoc]
  constructor
  · intro h
    have hcc := h c hc
    rw [e, if_pos rfl] at hcc
    intro i hi
    have := h i hi
    rw [e] at this
    by_cases d : i = c
    · rw [if_pos d] at this; exact this
    · rw [if_neg d, hcc, gx_z, ga_z] at this; exact this
  · intro h i hi
    rw [e]
    by_cases d : i = c
    · rw [if_pos d]; exact h i hi
    · rw [if_neg d, h i hi, h c hc, gx_z, ga_z]
def GJ (A : Nat → Nat → Fin 256) (c n : Nat) : Prop := ∀ r k, r < n → k < c → A r k = if r = k then 1 else 0
theorem GJ_step {A : Nat → Nat → Fin 256} {c n r : Nat} (h : GJ A c n) (hc : c < n) (hr : r < n) (hcr : c ≤ r) (ha : A r c ≠ 0) : GJ (elm (scl (swp A r c) c (gi (A r c))) c) (c + 1) n := by
  have sc : ∀ k, swp A r c c k = A r k := by
    intro k
    unfold swp
    by_cases d : c = r
    · rw [if_pos d, d]
    · rw [if_neg d, if_pos rfl]
  have top : ∀ k, scl (swp A r c) c (gi (A r c)) c k = gx (A r k) (gi (A r c)) := fun k => by
    unfold scl
    rw [if_pos rfl, sc]
  have oth : ∀ i k, i ≠ c → scl (swp A r c) c (gi (A r c)) i k = swp A r c i k := fun i k d => by
    unfold scl
    rw [if_neg d]
  intro i k hi hk
  by_cases kc : k = c
  · subst kc
    unfold elm
    by_cases d : i = k
    · rw [if_pos d, if_pos d, d, top, gx_gi ha]
    · rw [if_neg d, if_neg d, top, gx_gi ha, gx_o, ga_self]
  · have hk' : k < c := by omega
    have z : A r k = 0 := by rw [h r k hr hk', if_neg (by omega)]
    have zc : A c k = 0 := by rw [h c k hc hk', if_neg (by omega)]
    unfold elm
    by_cases d : i = c
    · rw [if_pos d, d, top, z, gx_q, if_neg (by omega)]
    · rw [if_neg d, top, z, gx_q, gx_z, ga_z, oth i k d]
      unfold swp
      by_cases e : i = r
      · rw [if_pos e, zc, if_neg (by omega)]
      · rw [if_neg e, if_neg d, h i k hi hk']
theorem GJ_bad {A : Nat → Nat → Fin 256} {c n : Nat} (h : GJ A c n) (hc : c < n) (hz : ∀ r, c ≤ r → r < n → A r c = 0) : ¬ NSg A n := by
  intro q
  have := q (fun k => if k < c then A k c else if k = c then 1 else 0) (by show (if n < c then A n c else if n = c then 1 else 0) = (0 : Fin 256); rw [if_neg (by omega), if_neg (by omega)]) (fun r hr => ?_) c hc
  · replace this : (if c < c then A c c else if c = c then 1 else 0) = (0 : Fin 256) := this
    rw [if_neg (by omega), if_pos rfl] at this
    exact absurd (congrArg Fin.val this) (by decide)
  · have hx : ∀ k, gx (A r k) (if k < c then A k c else if k = c then 1 else 0) = ga (if k = r ∧ r < c then A r c else 0) (if k = c then A r c else 0) := by
      intro k
      by_cases a : k < c
      · rw [if_pos a, h r k hr a, if_neg (show ¬ k = c by omega), ga_z]
        by_cases b : r = k
        · subst b
          rw [if_pos rfl, if_pos ⟨rfl, a⟩, gx_1]
        · rw [if_neg b, if_neg (fun z => b z.1.symm), gx_q]
      · rw [if_neg a, if_neg (show ¬ (k = r ∧ r < c) by omega), ga_0]
        by_cases b : k = c
        · rw [if_pos b, if_pos b, b, gx_o]
        · rw [if_neg b, if_neg b, gx_z]
    rw [zS_congr _ (fun k _ => hx k), zS_add, zS_one (f := fun k => if k = c then A r c else 0) (k := c) (n + 1) (by omega) (fun i _ d => if_neg d), if_pos rfl]
    by_cases b : r < c
    · rw [zS_one (k := r) (n + 1) (by omega) (fun i _ d => if_neg (fun z => d z.1)), if_pos ⟨rfl, b⟩, ga_self]
    · rw [zS_0 _ (fun i _ => if_neg (fun z => b z.2)), hz r (by omega) hr, ga_z]
theorem GJ_end {A : Nat → Nat → Fin 256} {n : Nat} (h : GJ A n n) : KRn A n (fun k => if k < n then A k n else 1) := by
  intro r hr
  show ga (zS (fun k => gx (A r k) (if k < n then A k n else 1)) n) (gx (A r n) (if n < n then A n n else 1)) = 0
  rw [if_neg (by omega), gx_o, zS_one (k := r) n hr (fun i hi d => by rw [h r i hr hi, if_neg (fun z => d z.symm), gx_q]), h r r hr hr, if_pos rfl, gx_1, if_pos hr, ga_self]
/-! the reference's table of equations -/
def SYm (M : im_M) (A : Nat → Nat → Fin 256) (n : Nat) : Prop := ∀ r k, r < n → k ≤ n → im_i M 124 (17 * r + k) = nI (A r k).val
theorem SY_set {M : im_M} {A : Nat → Nat → Fin 256} {n r k : Nat} {v : Fin 256} (hn : n ≤ 15) (hk : k ≤ n) (h : SYm M A n) : SYm (im_setI M 124 (17 * r + k) (nI v.val)) (fun i j => if i = r ∧ j = k then v else A i j) n := by
  intro i j hi hj
  by_cases c : i = r ∧ j = k
  · obtain ⟨rfl, rfl⟩ := c
    show im_i (im_setI M 124 (17 * i + j) (nI v.val)) 124 (17 * i + j) = nI (if i = i ∧ j = j then v else A i j).val
    rw [hit, if_pos ⟨rfl, rfl⟩]
  · show im_i (im_setI M 124 (17 * r + k) (nI v.val)) 124 (17 * i + j) = nI (if i = r ∧ j = k then v else A i j).val
    rw [sk1 (by omega), if_neg c]
    exact h i j hi hj
theorem SY_v {M : im_M} {A : Nat → Nat → Fin 256} {n r k : Nat} {v : Fin 256} (h : SYm M A n) (hr : r < n) (hk : k ≤ n) (e : A r k = v) : im_i M 124 (17 * r + k) = nI v.val := by
  rw [← e]
  exact h r k hr hk
theorem SY_congr {M : im_M} {A B : Nat → Nat → Fin 256} {n : Nat} (e : ∀ r k, r < n → k ≤ n → A r k = B r k) (h : SYm M A n) : SYm M B n := fun r k hr hk => by rw [← e r k hr hk]; exact h r k hr hk
theorem tRf {M : im_M} {a b : Fin 256} : f_MSquareRows_times (nI a.val) (nI b.val) M = some (nI (gx a b).val) := s_timesR a.isLt b.isLt
theorem s_inverse {M : im_M} {b : Fin 256} (hb : b ≠ 0) : f_MSquareRows_inverse (nI b.val) M = some (nI (gi b).val) := by
  unfold f_MSquareRows_inverse
  have g0 : (gi b).val ≠ 0 := fun z => al_ne (255 - lgN b.val) (Fin.ext z)
  have gl := (gi b).isLt
  have e : lp (uc1 (f_MSquareRows_inverse_L2 (nI b.val) M)) 1 = some (nI (gi b).val) := by
    refine lp_row (fun i => nI (i + 1)) ((gi b).val - 1) (fun i hi => ?_) ?_
    · show f_MSquareRows_inverse_L2 (nI b.val) M (nI (i + 1)) = some (Sum.inl (nI (i + 1 + 1)))
      unfold f_MSquareRows_inverse_L2
      have ei : nI (i + 1) = nI (⟨i + 1, by omega⟩ : Fin 256).val := rfl
      rw [ei, tRf, bd1_s]
      have ne : ¬ nI (gx ⟨i + 1, by omega⟩ b).val = 1 := by
        intro z
        have hl := (gx ⟨i + 1, by omega⟩ b).isLt
        have z1 : (gx ⟨i + 1, by omega⟩ b).val = 1 := (nI_eq (b := 1) (by omega) (by omega)).mp z
        have z2 : gx b ⟨i + 1, by omega⟩ = gx b (gi b) := by rw [gx_comm, gx_gi hb]; exact Fin.ext z1
        have z3 := congrArg Fin.val (gx_can hb z2)
        replace z3 : i + 1 = (gi b).val := z3
        omega
      rw [if_neg ne]
      exact congrArg (fun z => some (Sum.inl z)) (nI_add (i + 1) 1)
    · show f_MSquareRows_inverse_L2 (nI b.val) M (nI ((gi b).val - 1 + 1)) = _
      unfold f_MSquareRows_inverse_L2
      rw [show (gi b).val - 1 + 1 = (gi b).val by omega, tRf, bd1_s, gx_comm, gx_gi hb]
      rw [if_pos (by decide)]
  rw [e, bd1_s]
theorem s_pivot {M : im_M} {A : Nat → Nat → Fin 256} {n c : Nat} (hn : n ≤ 15) (hc : c < n) (h : SYm M A n) : ed (lp (uc1 (f_MSquareRows_solves_L9 (nI n) (nI c) M)) (nI c)) (fun z => ∃ r, z = nI r ∧ c ≤ r ∧ r ≤ n ∧ (∀ j, c ≤ j → j < r → A j c = 0) ∧ (r < n → A r c ≠ 0)) := by
  refine lp_inv (fun m (s : Int32) => ∃ r, r + m = n ∧ s = nI r ∧ c ≤ r ∧ ∀ j, c ≤ j → j < r → A j c = 0) ?_ (k := n - c) ⟨c, by omega, rfl, Nat.le_refl _, fun j a b => by omega⟩
  rintro m s ⟨r, hr, rfl, hcr, hz⟩
  show ed (f_MSquareRows_solves_L9 (nI n) (nI c) M (nI r)) _
  unfold f_MSquareRows_solves_L9
  rw [if_nIl (by omega) (by omega)]
  by_cases y : n ≤ r
  · rw [if_pos y]
    exact lpo_r ⟨r, rfl, hcr, by omega, hz, fun z => by omega⟩
  · rw [if_neg y, nI_m, nI_add, gd_pos (by rw [inb_nI (by show 17 * r + c < 2147483648; omega)]; show 17 * r + c < 272; omega), nI_clamp (by show 17 * r + c < 2147483648; omega), show im_i M 124 (OfNat.ofNat 17 * r + c) = nI (A r c).val from h r c (by omega) (by omega)]
    simp only [nZ]
    by_cases d : A r c = 0
    · rw [if_neg (fun z => z d)]
      refine lpo_l (m - 1) (by omega) ⟨r + 1, by omega, nI_add r 1, by omega, fun j a b => ?_⟩
      by_cases e : j = r
      · rw [e]; exact d
      · exact hz j a (by omega)
    · rw [if_pos d]
      exact lpo_r ⟨r, rfl, hcr, by omega, hz, fun _ => d⟩
theorem s_swap {M : im_M} {A : Nat → Nat → Fin 256} {n c r : Nat} (hn : n ≤ 15) (hc : c < n) (hr : r < n) (h : SYm M A n) : ed (lp (uc2 (f_MSquareRows_solves_L44 (nI n) (nI c) (nI r))) (0, M)) (fun R => SYm R (swp A r c) n ∧ fr (2 ^ 124) [] M R) := by
  refine lp_for (S := Unit) (fun j _ (t : Int32 × im_M) => t.1 = nI j ∧ SYm t.2 (fun i k => if k < j then swp A r c i k else A i k) n ∧ fr (2 ^ 124) [] M t.2) (Q := fun _ R => SYm R (swp A r c) n ∧ fr (2 ^ 124) [] M R) (n + 1) (fun _ s => s) ?_ ?_ (s := ()) ⟨rfl, SY_congr (fun i k _ _ => (if_neg (by omega)).symm) h, fr_refl⟩
  · rintro j s ⟨x, M1⟩ hj ⟨e, h1, hf⟩
    replace e : x = nI j := e
    replace h1 : SYm M1 (fun i k => if k < j then swp A r c i k else A i k) n := h1
    subst e
    show ed (f_MSquareRows_solves_L44 (nI n) (nI c) (nI r) (nI j) M1) _
    unfold f_MSquareRows_solves_L44
    have er : (17 : Int32) * nI r + nI j = nI (17 * r + j) := by rw [nI_m, nI_add]
    have ec : (17 : Int32) * nI c + nI j = nI (17 * c + j) := by rw [nI_m, nI_add]
    have v1 : im_i M1 124 (17 * c + j) = nI (A c j).val := SY_v h1 hc (by omega) (if_neg (by omega))
    have v2 : im_i M1 124 (17 * r + j) = nI (A r j).val := SY_v h1 hr (by omega) (if_neg (by omega))
    rw [if_nIlt (by omega) (by omega), if_neg (by omega), er, ec, gd_pos (by rw [inb_nI (by omega)]; omega), gd_pos (by rw [inb_nI (by omega)]; omega), gd_pos (by rw [inb_nI (by omega)]; omega), gd_pos (by rw [inb_nI (by omega)]; omega), nI_clamp (by omega), nI_clamp (by omega), v1, v2]
    refine ed_mk ⟨_, rfl, nI_add j 1, SY_congr (fun i k hi hk => ?_) (SY_set hn (by omega) (SY_set hn (by omega) h1)), fr_I (by decide) (fr_I (by decide) hf)⟩
    show (if i = c ∧ k = j then A r j else if i = r ∧ k = j then A c j else if k < j then swp A r c i k else A i k) = if k < j + 1 then swp A r c i k else A i k
    by_cases d : k = j
    · subst d
      rw [if_pos (show k < k + 1 by omega)]
      unfold swp
      by_cases a : i = c
      · rw [if_pos ⟨a, rfl⟩]
        by_cases b : i = r
        · rw [if_pos b, ← a, b]
        · rw [if_neg b, if_pos a]
      · rw [if_neg (fun z => a z.1)]
        by_cases b : i = r
        · rw [if_pos ⟨b, rfl⟩, if_pos b]
        · rw [if_neg (fun z => b z.1), if_neg (by omega), if_neg b, if_neg a]
    · rw [if_neg (fun z => d z.2), if_neg (fun z => d z.2)]
      by_cases b : k < j
      · rw [if_pos b, if_pos (by omega)]
      · rw [if_neg b, if_neg (by omega)]
  · rintro s ⟨x, M1⟩ ⟨e, h1, hf⟩
    replace e : x = nI (n + 1) := e
    subst e
    show ed (f_MSquareRows_solves_L44 (nI n) (nI c) (nI r) (nI (n + 1)) M1) _
    unfold f_MSquareRows_solves_L44
    rw [if_nIlt (by omega) (by omega), if_pos (by omega)]
    exact ed_mk ⟨_, rfl, SY_congr (fun i k _ hk => if_pos (by omega)) h1, hf⟩
theorem s_scale {M : im_M} {A : Nat → Nat → Fin 256} {n c : Nat} {b : Fin 256} (hn : n ≤ 15) (hc : c < n) (h : SYm M A n) : ed (lp (uc2 (f_MSquareRows_solves_L127 (nI n) (nI c) (nI b.val))) (0, M)) (fun R => SYm R (scl A c b) n ∧ fr (2 ^ 124) [] M R) := by
  refine lp_for (S := Unit) (fun j _ (t : Int32 × im_M) => t.1 = nI j ∧ SYm t.2 (fun i k => if k < j then scl A c b i k else A i k) n ∧ fr (2 ^ 124) [] M t.2) (Q := fun _ R => SYm R (scl A c b) n ∧ fr (2 ^ 124) [] M R) (n + 1) (fun _ s => s) ?_ ?_ (s := ()) ⟨rfl, SY_congr (fun i k _ _ => (if_neg (by omega)).symm) h, fr_refl⟩
  · rintro j s ⟨x, M1⟩ hj ⟨e, h1, hf⟩
    replace e : x = nI j := e
    replace h1 : SYm M1 (fun i k => if k < j then scl A c b i k else A i k) n := h1
    subst e
    show ed (f_MSquareRows_solves_L127 (nI n) (nI c) (nI b.val) (nI j) M1) _
    unfold f_MSquareRows_solves_L127
    have ec : (17 : Int32) * nI c + nI j = nI (17 * c + j) := by rw [nI_m, nI_add]
    have v1 : im_i M1 124 (17 * c + j) = nI (A c j).val := SY_v h1 hc (by omega) (if_neg (by omega))
    rw [if_nIlt (by omega) (by omega), if_neg (by omega), ec, gd_pos (by rw [inb_nI (by omega)]; omega), nI_clamp (by omega), v1, tRf, bd1_s, gd_pos (by rw [inb_nI (by omega)]; omega)]
    refine ed_mk ⟨_, rfl, nI_add j 1, SY_congr (fun i k hi hk => ?_) (SY_set hn (by omega) h1), fr_I (by decide) hf⟩
    show (if i = c ∧ k = j then gx (A c j) b else if k < j then scl A c b i k else A i k) = if k < j + 1 then scl A c b i k else A i k
    by_cases d : k = j
    · subst d
      rw [if_pos (show k < k + 1 by omega)]
      unfold scl
      by_cases a : i = c
      · rw [if_pos ⟨a, rfl⟩, if_pos a, a]
      · rw [if_neg (fun z => a z.1), if_neg (by omega), if_neg a]
    · rw [if_neg (fun z => d z.2)]
      by_cases y : k < j
      · rw [if_pos y, if_pos (by omega)]
      · rw [if_neg y, if_neg (by omega)]
  · rintro s ⟨x, M1⟩ ⟨e, h1, hf⟩
    replace e : x = nI (n + 1) := e
    subst e
    show ed (f_MSquareRows_solves_L127 (nI n) (nI c) (nI b.val) (nI (n + 1)) M1) _
    unfold f_MSquareRows_solves_L127
    rw [if_nIlt (by omega) (by omega), if_pos (by omega)]
    exact ed_mk ⟨_, rfl, SY_congr (fun i k _ hk => if_pos (by omega)) h1, hf⟩
theorem s_elimR {M : im_M} {A : Nat → Nat → Fin 256} {n c j : Nat} (hn : n ≤ 15) (hc : c < n) (hj : j < n) (h : SYm M A n) : ed (lp (uc2 (f_MSquareRows_solves_L194 (nI n) (nI c) (nI j) (nI (A j c).val))) (0, M)) (fun R => SYm R (fun i k => if i = j then elm A c i k else A i k) n ∧ fr (2 ^ 124) [] M R) := by
  by_cases y : j = c
  · have e : lp (uc2 (f_MSquareRows_solves_L194 (nI n) (nI c) (nI j) (nI (A j c).val))) (0, M) = some M := by
      refine lp_row (fun _ => ((0 : Int32), M)) 0 (fun i hi => by omega) ?_
      show f_MSquareRows_solves_L194 (nI n) (nI c) (nI j) (nI (A j c).val) (nI 0) M = _
      unfold f_MSquareRows_solves_L194
      rw [if_nIlt (by omega) (by omega), if_neg (by omega), y, if_pos rfl]
    rw [e]
    refine ed_mk ⟨SY_congr (fun i k _ _ => ?_) h, fr_refl⟩
    by_cases d : i = j
    · rw [if_pos d]
      unfold elm
      rw [if_pos (by omega)]
    · rw [if_neg d]
  · refine lp_for (S := Unit) (fun q _ (t : Int32 × im_M) => t.1 = nI q ∧ SYm t.2 (fun i k => if i = j ∧ k < q then elm A c i k else A i k) n ∧ fr (2 ^ 124) [] M t.2) (Q := fun _ R => SYm R (fun i k => if i = j then elm A c i k else A i k) n ∧ fr (2 ^ 124) [] M R) (n + 1) (fun _ s => s) ?_ ?_ (s := ()) ⟨rfl, SY_congr (fun i k _ _ => (if_neg (by omega)).symm) h, fr_refl⟩
    · rintro q s ⟨x, M1⟩ hq ⟨e, h1, hf⟩
      replace e : x = nI q := e
      replace h1 : SYm M1 (fun i k => if i = j ∧ k < q then elm A c i k else A i k) n := h1
      subst e
      show ed (f_MSquareRows_solves_L194 (nI n) (nI c) (nI j) (nI (A j c).val) (nI q) M1) _
      unfold f_MSquareRows_solves_L194
      have ec : (17 : Int32) * nI c + nI q = nI (17 * c + q) := by rw [nI_m, nI_add]
      have ej : (17 : Int32) * nI j + nI q = nI (17 * j + q) := by rw [nI_m, nI_add]
      have v1 : im_i M1 124 (17 * c + q) = nI (A c q).val := SY_v h1 hc (by omega) (if_neg (by omega))
      have v2 : im_i M1 124 (17 * j + q) = nI (A j q).val := SY_v h1 hj (by omega) (if_neg (by omega))
      rw [if_nIlt (by omega) (by omega), if_neg (by omega), if_nIe (by omega) (by omega), if_neg y, ec, ej, gd_pos (by rw [inb_nI (by omega)]; omega), gd_pos (by rw [inb_nI (by omega)]; omega), nI_clamp (by omega), nI_clamp (by omega), v1, tRf, bd1_s, gd_pos (by rw [inb_nI (by omega)]; omega), v2, nX]
      refine ed_mk ⟨_, rfl, nI_add q 1, SY_congr (fun i k hi hk => ?_) (SY_set hn (by omega) h1), fr_I (by decide) hf⟩
      show (if i = j ∧ k = q then ga (A j q) (gx (A j c) (A c q)) else if i = j ∧ k < q then elm A c i k else A i k) = if i = j ∧ k < q + 1 then elm A c i k else A i k
      by_cases d : i = j ∧ k = q
      · obtain ⟨rfl, rfl⟩ := d
        rw [if_pos ⟨rfl, rfl⟩, if_pos ⟨rfl, by omega⟩]
        unfold elm
        rw [if_neg y]
      · rw [if_neg d]
        by_cases b : i = j ∧ k < q
        · rw [if_pos b, if_pos ⟨b.1, by omega⟩]
        · rw [if_neg b, if_neg (by omega)]
    · rintro s ⟨x, M1⟩ ⟨e, h1, hf⟩
      replace e : x = nI (n + 1) := e
      replace h1 : SYm M1 (fun i k => if i = j ∧ k < n + 1 then elm A c i k else A i k) n := h1
      subst e
      show ed (f_MSquareRows_solves_L194 (nI n) (nI c) (nI j) (nI (A j c).val) (nI (n + 1)) M1) _
      unfold f_MSquareRows_solves_L194
      rw [if_nIlt (by omega) (by omega), if_pos (by omega)]
      refine ed_mk ⟨_, rfl, SY_congr (fun i k _ hk => ?_) h1, hf⟩
      by_cases d : i = j
      · rw [if_pos ⟨d, by omega⟩, if_pos d]
      · rw [if_neg (fun z => d z.1), if_neg d]
theorem s_elim {M : im_M} {A : Nat → Nat → Fin 256} {n c : Nat} (hn : n ≤ 15) (hc : c < n) (h : SYm M A n) : ed (lp (uc2 (f_MSquareRows_solves_L171 (nI n) (nI c))) (0, M)) (fun R => SYm R (elm A c) n ∧ fr (2 ^ 124) [] M R) := by
  refine lp_for (S := Unit) (fun j _ (t : Int32 × im_M) => t.1 = nI j ∧ SYm t.2 (fun i k => if i < j then elm A c i k else A i k) n ∧ fr (2 ^ 124) [] M t.2) (Q := fun _ R => SYm R (elm A c) n ∧ fr (2 ^ 124) [] M R) n (fun _ s => s) ?_ ?_ (s := ()) ⟨rfl, SY_congr (fun i k _ _ => (if_neg (by omega)).symm) h, fr_refl⟩
  · rintro j s ⟨x, M1⟩ hj ⟨e, h1, hf⟩
    replace e : x = nI j := e
    replace h1 : SYm M1 (fun i k => if i < j then elm A c i k else A i k) n := h1
    subst e
    show ed (f_MSquareRows_solves_L171 (nI n) (nI c) (nI j) M1) _
    unfold f_MSquareRows_solves_L171
    have ej : (17 : Int32) * nI j + nI c = nI (17 * j + c) := by rw [nI_m, nI_add]
    have rowc : ∀ k, (if c < j then elm A c c k else A c k) = A c k := by
      intro k
      by_cases d : c < j
      · rw [if_pos d]; unfold elm; rw [if_pos rfl]
      · rw [if_neg d]
    have pe : ∀ i k : Nat, (if i = j then elm (fun i k => if i < j then elm A c i k else A i k) c i k else if i < j then elm A c i k else A i k) = if i < j + 1 then elm A c i k else A i k := by
      intro i k
      by_cases d : i = j
      · subst d
        rw [if_pos rfl, if_pos (show i < i + 1 by omega)]
        show (if i = c then (if i < i then elm A c i k else A i k) else ga (if i < i then elm A c i k else A i k) (gx (if i < i then elm A c i c else A i c) (if c < i then elm A c c k else A c k))) = if i = c then A i k else ga (A i k) (gx (A i c) (A c k))
        rw [rowc, if_neg (show ¬ i < i by omega), if_neg (show ¬ i < i by omega)]
      · rw [if_neg d]
        by_cases b : i < j
        · rw [if_pos b, if_pos (by omega)]
        · rw [if_neg b, if_neg (by omega)]
    obtain ⟨B, hB⟩ : ∃ B : Nat → Nat → Fin 256, B = fun i k => if i < j then elm A c i k else A i k := ⟨_, rfl⟩
    rw [← hB] at h1
    have pe2 : ∀ i k : Nat, (if i = j then elm B c i k else B i k) = if i < j + 1 then elm A c i k else A i k := by
      rw [hB]
      exact pe
    clear pe
    clear hB
    have v2 : im_i M1 124 (17 * j + c) = nI (B j c).val := h1 j c hj (by omega)
    rw [if_nIl (by omega) (by omega), if_neg (by omega), ej, gd_pos (by rw [inb_nI (by omega)]; omega), nI_clamp (by omega), v2]
    apply bd1_mk
    refine ed_mono (s_elimR hn hc hj h1) ?_
    rintro R ⟨r1, r2⟩
    exact ed_mk ⟨_, rfl, nI_add j 1, SY_congr (fun i k hi hk => pe2 i k) r1, fr_tr r2 hf⟩
  · rintro s ⟨x, M1⟩ ⟨e, h1, hf⟩
    replace e : x = nI n := e
    subst e
    show ed (f_MSquareRows_solves_L171 (nI n) (nI c) (nI n) M1) _
    unfold f_MSquareRows_solves_L171
    rw [if_nIl (by omega) (by omega), if_pos (by omega)]
    exact ed_mk ⟨_, rfl, SY_congr (fun i k hi _ => if_pos hi) h1, hf⟩
theorem s_solves {M : im_M} {A : Nat → Nat → Fin 256} {n : Nat} (hn : n ≤ 15) (h : SYm M A n) : ed (f_MSquareRows_solves (nI n) M) (fun r => ((r.1 = 0 ∧ ¬ NSg A n) ∨ (r.1 = 1 ∧ ∃ s, AF (im_i r.2 125) s n ∧ KRn A n (fun k => if k < n then s k else 1))) ∧ fr (2 ^ 124 + 2 ^ 125) [] M r.2) := by
  unfold f_MSquareRows_solves
  refine bs1_q (P := fun M1 => ∃ B, SYm M1 B n ∧ GJ B n n ∧ (∀ x, KRn B n x ↔ KRn A n x) ∧ fr (2 ^ 124) [] M M1) (R := fun (t : Int32 × im_M) => t.1 = 0 ∧ ¬ NSg A n ∧ fr (2 ^ 124) [] M t.2) (lp_inv (fun m (s : Int32 × im_M) => ∃ c B, c + m = n ∧ s.1 = nI c ∧ SYm s.2 B n ∧ GJ B c n ∧ (∀ x, KRn B n x ↔ KRn A n x) ∧ fr (2 ^ 124) [] M s.2) ?_ (k := n) ⟨0, A, by omega, rfl, h, fun r k _ hk => by omega, fun _ => Iff.rfl, fr_refl⟩) ?_ ?_
  · rintro m ⟨x3, M4⟩ ⟨c, B, hc, e, hB, hG, hK, hf⟩
    replace e : x3 = nI c := e
    replace hB : SYm M4 B n := hB
    replace hf : fr (2 ^ 124) [] M M4 := hf
    subst e
    show ed (f_MSquareRows_solves_L2 (nI n) (nI c) M4) _
    unfold f_MSquareRows_solves_L2
    rw [if_nIl (by omega) (by omega)]
    by_cases y : n ≤ c
    · rw [if_pos y]
      obtain rfl : c = n := by omega
      exact lpo_r ⟨B, hB, hG, hK, hf⟩
    · rw [if_neg y]
      obtain ⟨z, hz, r, rfl, r1, r2, r3, r4⟩ := s_pivot (c := c) hn (by omega) hB
      rw [hz, bd1_s]
      simp only [nIe (show r < 2147483648 by omega) (show n < 2147483648 by omega)]
      by_cases cr : r = n
      · rw [if_neg (fun q => q cr)]
        refine lpo_r ⟨rfl, fun q => ?_, hf⟩
        refine GJ_bad hG (by omega) (fun j a b => r3 j a (by omega)) (fun x x0 xk => ?_)
        exact q x x0 ((hK x).mp xk)
      · rw [if_pos cr]
        obtain ⟨M5, h5, s5, f5⟩ := s_swap (r := r) (c := c) hn (by omega) (by omega) hB
        have hcc : swp B r c c c = B r c := by
          unfold swp
          by_cases d : c = r
          · rw [if_pos d, d]
          · rw [if_neg d, if_pos rfl]
        have bne : B r c ≠ 0 := r4 (by omega)
        rw [h5, bd1_s, nI_m, nI_add, gd_pos (by rw [inb_nI (by show 17 * c + c < 2147483648; omega)]; show 17 * c + c < 272; omega), nI_clamp (by show 17 * c + c < 2147483648; omega), show im_i M5 124 (OfNat.ofNat 17 * c + c) = nI (B r c).val from by rw [← hcc]; exact s5 c c (by omega) (by omega), s_inverse bne, bd1_s]
        obtain ⟨M6, h6, s6, f6⟩ := s_scale (b := gi (B r c)) hn (show c < n by omega) s5
        rw [h6, bd1_s]
        obtain ⟨M7, h7, s7, f7⟩ := s_elim hn (show c < n by omega) s6
        rw [h7, bd1_s]
        refine lpo_l (m - 1) (by omega) ⟨c + 1, _, by omega, nI_add c 1, s7, GJ_step hG (by omega) (by omega) r1 bne, fun x => ?_, fr_tr f7 (fr_tr f6 (fr_tr f5 hf))⟩
        rw [KRn_elm (by omega), KRn_scl (show gi (B r c) ≠ 0 from al_ne _), KRn_swp (by omega) (by omega), hK]
  · rintro M1 ⟨B, hB, hG, hK, hf⟩
    apply bd1_mk
    refine ed_mono (lp_for (S := Unit) (fun j _ (t : Int32 × im_M) => t.1 = nI j ∧ AF (im_i t.2 125) (fun k => B k n) j ∧ fr (2 ^ 125) [] M1 t.2) (Q := fun _ R => AF (im_i R 125) (fun k => B k n) n ∧ fr (2 ^ 125) [] M1 R) n (fun _ s => s) ?_ ?_ (s := ()) (t := (0, M1)) ⟨rfl, fun j hj => by omega, fr_refl⟩) ?_
    · rintro j s ⟨x, M2⟩ hj ⟨e, h1, hf2⟩
      replace e : x = nI j := e
      replace h1 : AF (im_i M2 125) (fun k => B k n) j := h1
      replace hf2 : fr (2 ^ 125) [] M1 M2 := hf2
      subst e
      show ed (f_MSquareRows_solves_L270 (nI n) (nI j) M2) _
      unfold f_MSquareRows_solves_L270
      have ej : (17 : Int32) * nI j + nI n = nI (17 * j + n) := by rw [nI_m, nI_add]
      rw [if_nIl (by omega) (by omega), if_neg (by omega), ej, gd_pos (by rw [inb_nI (by omega)]; omega), gd_pos (by rw [inb_nI (by omega)]; omega), nI_clamp (by omega), nI_clamp (by omega), fr_at hf2 (a := 124) (by decide), hB j n hj (Nat.le_refl _)]
      refine ed_mk ⟨_, rfl, nI_add j 1, fun q hq => ?_, fr_I (by decide) hf2⟩
      show im_i (im_setI M2 125 j _) 125 q = _
      by_cases d : q = j
      · subst d; exact hit
      · rw [sk1 (by omega)]; exact h1 q (by omega)
    · rintro s ⟨x, M2⟩ ⟨e, h1, hf2⟩
      replace e : x = nI n := e
      subst e
      show ed (f_MSquareRows_solves_L270 (nI n) (nI n) M2) _
      unfold f_MSquareRows_solves_L270
      rw [if_nIl (by omega) (by omega), if_pos (by omega)]
      exact ed_mk ⟨_, rfl, h1, hf2⟩
    · rintro R ⟨q1, q2⟩
      refine ed_mk ⟨Or.inr ⟨rfl, _, q1, (hK _).mp (GJ_end hG)⟩, fr_tr (fr_mono (by decide) (fun p hp => hp) q2) (fr_mono (by decide) (fun p hp => hp) hf)⟩
  · rintro ⟨x, R⟩ ⟨q1, q2, q3⟩
    exact ed_mk ⟨Or.inl ⟨q1, q2⟩, fr_mono (by decide) (fun p hp => hp) q3⟩
