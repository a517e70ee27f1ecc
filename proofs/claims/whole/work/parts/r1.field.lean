/-! THE FIELD OF 256: ITS LAWS -/
def ga (a b : Fin 256) : Fin 256 := ⟨a.val ^^^ b.val, xor_lt a.isLt b.isLt⟩
def gx (a b : Fin 256) : Fin 256 := ⟨gm a.val b.val, gm_lt⟩
def al (k : Nat) : Fin 256 := ⟨pwN k, pw_lt k⟩
theorem ga_comm (a b : Fin 256) : ga a b = ga b a := Fin.ext (Nat.xor_comm _ _)
theorem ga_assoc (a b c : Fin 256) : ga (ga a b) c = ga a (ga b c) := Fin.ext (Nat.xor_assoc _ _ _)
theorem ga_left (a b c : Fin 256) : ga a (ga b c) = ga b (ga a c) := by rw [← ga_assoc, ga_comm a b, ga_assoc]
theorem ga_self (a : Fin 256) : ga a a = 0 := Fin.ext (Nat.xor_self _)
theorem ga_z (a : Fin 256) : ga a 0 = a := Fin.ext (Nat.xor_zero _)
theorem ga_0 (a : Fin 256) : ga 0 a = a := Fin.ext (Nat.zero_xor _)
theorem ga_ss (a b : Fin 256) : ga a (ga a b) = b := by rw [← ga_assoc, ga_self, ga_0]
theorem ga_eq0 {a b : Fin 256} (h : ga a b = 0) : a = b := by
  have := congrArg (ga a) h
  rw [ga_ss, ga_z] at this
  exact this.symm
theorem ga_4 (a b c d : Fin 256) : ga (ga a b) (ga c d) = ga (ga a c) (ga b d) := by rw [ga_assoc, ga_assoc, ga_left b c d]
theorem pw_mod (i : Nat) : pwN (i % 255) = pwN i := by
  have h : ∀ k, pwN (255 * k + i % 255) = pwN (i % 255) := by
    intro k
    induction k with
    | zero => rw [Nat.mul_zero, Nat.zero_add]
    | succ k ih => rw [show 255 * (k + 1) + i % 255 = 255 + (255 * k + i % 255) by omega, pw_per, ih]
  have := h (i / 255)
  rw [show 255 * (i / 255) + i % 255 = i by omega] at this
  exact this.symm
theorem lg_pw (i : Nat) : lgN (pwN i) = i % 255 := by
  have := (lg_p ⟨i % 255, by omega⟩).1
  replace this : lgN (pwN (i % 255)) = i % 255 := this
  rw [pw_mod] at this
  exact this
theorem gm_pw (i j : Nat) : gm (pwN i) (pwN j) = pwN (i + j) := by
  unfold gm
  rw [if_neg (fun z => z.elim (pw_ne i) (pw_ne j)), lg_pw, lg_pw, ← pw_mod (i % 255 + j % 255), ← pw_mod (i + j), show (i % 255 + j % 255) % 255 = (i + j) % 255 by omega]
theorem al_mul (i j : Nat) : gx (al i) (al j) = al (i + j) := Fin.ext (gm_pw i j)
theorem al_ne (i : Nat) : al i ≠ 0 := fun h => pw_ne i (congrArg Fin.val h)
theorem al_of {a : Fin 256} (h : a ≠ 0) : al (lgN a.val) = a := Fin.ext (lg_a a (fun z => h (Fin.ext z))).1
theorem al_ex {a : Fin 256} (h : a ≠ 0) : ∃ i, a = al i := ⟨_, (al_of h).symm⟩
theorem gx_comm (a b : Fin 256) : gx a b = gx b a := by
  refine Fin.ext ?_
  show gm a.val b.val = gm b.val a.val
  unfold gm
  by_cases ha : a.val = 0
  · rw [if_pos (Or.inl ha), if_pos (Or.inr ha)]
  · by_cases hb : b.val = 0
    · rw [if_pos (Or.inr hb), if_pos (Or.inl hb)]
    · rw [if_neg (fun z => z.elim ha hb), if_neg (fun z => z.elim hb ha), Nat.add_comm]
theorem gx_q (a : Fin 256) : gx 0 a = 0 := Fin.ext (gm_0 (b := a.val))
theorem gx_z (a : Fin 256) : gx a 0 = 0 := Fin.ext (gm_z (a := a.val))
theorem gx_assoc (a b c : Fin 256) : gx (gx a b) c = gx a (gx b c) := by
  by_cases ha : a = 0
  · rw [ha, gx_q, gx_q, gx_q]
  by_cases hb : b = 0
  · rw [hb, gx_z, gx_q, gx_z]
  by_cases hc : c = 0
  · rw [hc, gx_z, gx_z, gx_z]
  obtain ⟨i, rfl⟩ := al_ex ha
  obtain ⟨j, rfl⟩ := al_ex hb
  obtain ⟨k, rfl⟩ := al_ex hc
  rw [al_mul, al_mul, al_mul, al_mul, Nat.add_assoc]
theorem gx_left (a b c : Fin 256) : gx a (gx b c) = gx b (gx a c) := by rw [← gx_assoc, gx_comm a b, gx_assoc]
theorem al_0 : al 0 = 1 := Fin.ext rfl
theorem al_p (i : Nat) : al (255 + i) = al i := Fin.ext (pw_per i)
theorem al_255 : al 255 = 1 := by
  have e := al_p 0
  rw [Nat.add_zero] at e
  rw [e]
  exact al_0
theorem gx_1 (a : Fin 256) : gx 1 a = a := by
  by_cases ha : a = 0
  · rw [ha, gx_z]
  · obtain ⟨i, rfl⟩ := al_ex ha
    rw [← al_0, al_mul, Nat.zero_add]
theorem gx_o (a : Fin 256) : gx a 1 = a := by rw [gx_comm, gx_1]
theorem gmR_lin : ∀ f x y k, x < 256 → y < 256 → gmR f (x ^^^ y) k = gmR f x k ^^^ gmR f y k := by
  intro f
  induction f with
  | zero => intro x y k _ _; exact (Nat.xor_zero 0).symm
  | succ f ih =>
    intro x y k hx hy
    have hx1 : xt x < 256 := xt_lt ⟨x, hx⟩
    have hy1 : xt y < 256 := xt_lt ⟨y, hy⟩
    have e : xt (x ^^^ y) = xt x ^^^ xt y := xt_xor ⟨x, hx⟩ ⟨y, hy⟩
    show (if k % 2 = 1 then x ^^^ y else 0) ^^^ gmR f (xt (x ^^^ y)) (k / 2) = ((if k % 2 = 1 then x else 0) ^^^ gmR f (xt x) (k / 2)) ^^^ ((if k % 2 = 1 then y else 0) ^^^ gmR f (xt y) (k / 2))
    rw [e, ih _ _ _ hx1 hy1]
    have ac : ∀ p q r s : Nat, (p ^^^ q) ^^^ (r ^^^ s) = (p ^^^ r) ^^^ (q ^^^ s) := by
      intro p q r s
      rw [Nat.xor_assoc, Nat.xor_assoc, ← Nat.xor_assoc q r s, Nat.xor_comm q r, Nat.xor_assoc]
    by_cases c : k % 2 = 1
    · rw [if_pos c, if_pos c, if_pos c, ac]
    · rw [if_neg c, if_neg c, if_neg c, Nat.zero_xor, Nat.zero_xor, Nat.zero_xor]
theorem gx_addr (a b c : Fin 256) : gx (ga b c) a = ga (gx b a) (gx c a) := by
  refine Fin.ext ?_
  show gm (b.val ^^^ c.val) a.val = gm b.val a.val ^^^ gm c.val a.val
  rw [← gmR_gm (xor_lt b.isLt c.isLt) a.isLt, ← gmR_gm b.isLt a.isLt, ← gmR_gm c.isLt a.isLt]
  exact gmR_lin 8 _ _ _ b.isLt c.isLt
theorem gx_add (a b c : Fin 256) : gx a (ga b c) = ga (gx a b) (gx a c) := by rw [gx_comm, gx_addr, gx_comm b, gx_comm c]
theorem gx_ne {a b : Fin 256} (ha : a ≠ 0) (hb : b ≠ 0) : gx a b ≠ 0 := by
  obtain ⟨i, rfl⟩ := al_ex ha
  obtain ⟨j, rfl⟩ := al_ex hb
  rw [al_mul]
  exact al_ne _
theorem gx_zero {a b : Fin 256} (h : gx a b = 0) : a = 0 ∨ b = 0 := by
  by_cases ha : a = 0
  · exact Or.inl ha
  · by_cases hb : b = 0
    · exact Or.inr hb
    · exact absurd h (gx_ne ha hb)
/-- the inverse -/
def gi (a : Fin 256) : Fin 256 := al (255 - lgN a.val)
theorem gx_gi {a : Fin 256} (h : a ≠ 0) : gx a (gi a) = 1 := by
  have hl : lgN a.val < 255 := (lg_a a (fun z => h (Fin.ext z))).2
  have e : gx (al (lgN a.val)) (gi a) = al (lgN a.val + (255 - lgN a.val)) := al_mul _ _
  rw [al_of h, show lgN a.val + (255 - lgN a.val) = 255 by omega] at e
  rw [e]
  exact al_255
theorem gx_can {a b c : Fin 256} (h : a ≠ 0) (e : gx a b = gx a c) : b = c := by
  have := congrArg (gx (gi a)) e
  rw [← gx_assoc, ← gx_assoc, gx_comm (gi a) a, gx_gi h, gx_1, gx_1] at this
  exact this
def px (a : Fin 256) : Nat → Fin 256
  | 0 => 1
  | k + 1 => gx (px a k) a
theorem px_al (i : Nat) : ∀ k, px (al i) k = al (i * k) := by
  intro k
  induction k with
  | zero => exact al_0.symm
  | succ k ih =>
    show gx (px (al i) k) (al i) = _
    rw [ih, al_mul, Nat.mul_succ]
theorem px_s (a : Fin 256) (k : Nat) : px a (k + 1) = gx a (px a k) := gx_comm _ _
theorem px_add (a : Fin 256) (m : Nat) : ∀ n, px a (m + n) = gx (px a m) (px a n) := by
  intro n
  induction n with
  | zero => exact (gx_o _).symm
  | succ n ih =>
    show gx (px a (m + n)) a = gx (px a m) (gx (px a n) a)
    rw [ih, gx_assoc]
/-! SUMS -/
def zS (f : Nat → Fin 256) : Nat → Fin 256
  | 0 => 0
  | n + 1 => ga (zS f n) (f n)
theorem zS_congr {f g : Nat → Fin 256} : ∀ n, (∀ i, i < n → f i = g i) → zS f n = zS g n := by
  intro n
  induction n with
  | zero => intro _; rfl
  | succ n ih =>
    intro h
    show ga (zS f n) (f n) = ga (zS g n) (g n)
    rw [ih (fun i hi => h i (by omega)), h n (by omega)]
theorem zS_0 {f : Nat → Fin 256} : ∀ n, (∀ i, i < n → f i = 0) → zS f n = 0 := by
  intro n
  induction n with
  | zero => intro _; rfl
  | succ n ih =>
    intro h
    show ga (zS f n) (f n) = 0
    rw [ih (fun i hi => h i (by omega)), h n (by omega), ga_z]
theorem zS_add (f g : Nat → Fin 256) : ∀ n, zS (fun i => ga (f i) (g i)) n = ga (zS f n) (zS g n) := by
  intro n
  induction n with
  | zero => exact (ga_z 0).symm
  | succ n ih =>
    show ga (zS (fun i => ga (f i) (g i)) n) (ga (f n) (g n)) = ga (ga (zS f n) (f n)) (ga (zS g n) (g n))
    rw [ih, ga_4]
theorem zS_mul (a : Fin 256) (f : Nat → Fin 256) : ∀ n, gx a (zS f n) = zS (fun i => gx a (f i)) n := by
  intro n
  induction n with
  | zero => exact gx_z a
  | succ n ih =>
    show gx a (ga (zS f n) (f n)) = ga (zS (fun i => gx a (f i)) n) (gx a (f n))
    rw [gx_add, ih]
theorem zS_swap (f : Nat → Nat → Fin 256) (m : Nat) : ∀ n, zS (fun i => zS (f i) m) n = zS (fun j => zS (fun i => f i j) n) m := by
  intro n
  induction n with
  | zero => exact (zS_0 m (fun _ _ => rfl)).symm
  | succ n ih =>
    show ga (zS (fun i => zS (f i) m) n) (zS (f n) m) = zS (fun j => ga (zS (fun i => f i j) n) (f n j)) m
    rw [ih, zS_add]
theorem zS_one {f : Nat → Fin 256} {k : Nat} : ∀ n, k < n → (∀ i, i < n → i ≠ k → f i = 0) → zS f n = f k := by
  intro n
  induction n with
  | zero => intro h; omega
  | succ n ih =>
    intro hk h
    show ga (zS f n) (f n) = f k
    by_cases c : k = n
    · rw [zS_0 n (fun i hi => h i (by omega) (by omega)), ga_0, c]
    · rw [ih (by omega) (fun i hi => h i (by omega)), h n (by omega) (fun z => c z.symm), ga_z]
theorem zS_ext {f : Nat → Fin 256} {n : Nat} (h : ∀ i, n ≤ i → f i = 0) : ∀ m, n ≤ m → zS f m = zS f n := by
  intro m hm
  obtain ⟨d, rfl⟩ := Nat.exists_eq_add_of_le hm
  clear hm
  induction d with
  | zero => rfl
  | succ d ih =>
    show ga (zS f (n + d)) (f (n + d)) = zS f n
    rw [ih, h _ (by omega), ga_z]
theorem zS_first (f : Nat → Fin 256) : ∀ n, zS f (n + 1) = ga (f 0) (zS (fun i => f (i + 1)) n) := by
  intro n
  induction n with
  | zero => exact ga_comm _ _
  | succ n ih =>
    show ga (zS f (n + 1)) (f (n + 1)) = ga (f 0) (ga (zS (fun i => f (i + 1)) n) (f (n + 1)))
    rw [ih, ga_assoc]
theorem zS_rev (f : Nat → Fin 256) : ∀ n, zS f n = zS (fun i => f (n - 1 - i)) n := by
  intro n
  induction n with
  | zero => rfl
  | succ n ih =>
    rw [zS_first (fun i => f (n + 1 - 1 - i)) n]
    show ga (zS f n) (f n) = ga (f n) _
    rw [ih, ga_comm]
    congr 1
    refine zS_congr n (fun i hi => ?_)
    congr 1
    omega
def sL (f : Nat → Fin 256) : List Nat → Fin 256
  | [] => 0
  | i :: l => ga (f i) (sL f l)
theorem sL_congr {f g : Nat → Fin 256} : ∀ l : List Nat, (∀ i, i ∈ l → f i = g i) → sL f l = sL g l := by
  intro l
  induction l with
  | nil => intro _; rfl
  | cons a t ih =>
    intro h
    show ga (f a) (sL f t) = ga (g a) (sL g t)
    rw [ih (fun i hi => h i (List.mem_cons_of_mem _ hi)), h a List.mem_cons_self]
theorem sL_0 {f : Nat → Fin 256} : ∀ l : List Nat, (∀ i, i ∈ l → f i = 0) → sL f l = 0 := by
  intro l
  induction l with
  | nil => intro _; rfl
  | cons a t ih =>
    intro h
    show ga (f a) (sL f t) = 0
    rw [ih (fun i hi => h i (List.mem_cons_of_mem _ hi)), h a List.mem_cons_self, ga_z]
theorem sL_add (f g : Nat → Fin 256) : ∀ l, sL (fun i => ga (f i) (g i)) l = ga (sL f l) (sL g l) := by
  intro l
  induction l with
  | nil => exact (ga_z 0).symm
  | cons a t ih =>
    show ga (ga (f a) (g a)) (sL (fun i => ga (f i) (g i)) t) = ga (ga (f a) (sL f t)) (ga (g a) (sL g t))
    rw [ih, ga_4]
theorem sL_mul (a : Fin 256) (f : Nat → Fin 256) : ∀ l, gx a (sL f l) = sL (fun i => gx a (f i)) l := by
  intro l
  induction l with
  | nil => exact gx_z a
  | cons b t ih =>
    show gx a (ga (f b) (sL f t)) = ga (gx a (f b)) (sL (fun i => gx a (f i)) t)
    rw [gx_add, ih]
theorem sL_app (f : Nat → Fin 256) (m : List Nat) : ∀ l, sL f (l ++ m) = ga (sL f l) (sL f m) := by
  intro l
  induction l with
  | nil => exact (ga_0 _).symm
  | cons b t ih =>
    show ga (f b) (sL f (t ++ m)) = ga (ga (f b) (sL f t)) (sL f m)
    rw [ih, ga_assoc]
theorem sL_F (f : Nat → Nat → Fin 256) (n : Nat) : ∀ l, sL (fun i => zS (f i) n) l = zS (fun j => sL (fun i => f i j) l) n := by
  intro l
  induction l with
  | nil => exact (zS_0 n (fun _ _ => rfl)).symm
  | cons a t ih =>
    show ga (zS (f a) n) (sL (fun i => zS (f i) n) t) = zS (fun j => ga (f a j) (sL (fun i => f i j) t)) n
    rw [ih, zS_add]
theorem zS_L {f : Nat → Fin 256} {p : Nat → Bool} : ∀ n, (∀ i, i < n → p i = false → f i = 0) → zS f n = sL f ((List.range n).filter p) := by
  intro n
  induction n with
  | zero => intro _; rfl
  | succ n ih =>
    intro h
    rw [List.range_succ, List.filter_append, sL_app, ← ih (fun i hi => h i (by omega))]
    show ga (zS f n) (f n) = _
    congr 1
    by_cases c : p n = true
    · rw [List.filter_cons_of_pos c]
      show _ = ga (f n) 0
      rw [ga_z]
    · rw [List.filter_cons_of_neg c]
      show _ = (0 : Fin 256)
      exact h n (by omega) (by simpa using c)
theorem sL_one {f : Nat → Fin 256} {k : Nat} : ∀ l : List Nat, l.Nodup → k ∈ l → (∀ i, i ∈ l → i ≠ k → f i = 0) → sL f l = f k := by
  intro l
  induction l with
  | nil => intro _ h; exact absurd h List.not_mem_nil
  | cons a t ih =>
    intro hn hk h
    obtain ⟨n1, n2⟩ := List.nodup_cons.mp hn
    show ga (f a) (sL f t) = f k
    by_cases c : k = a
    · subst c
      rw [sL_0 t (fun i hi => h i (List.mem_cons_of_mem _ hi) (fun z => n1 (z ▸ hi))), ga_z]
    · have hk2 : k ∈ t := (List.mem_cons.mp hk).resolve_left c
      rw [ih n2 hk2 (fun i hi => h i (List.mem_cons_of_mem _ hi)), h a List.mem_cons_self (fun z => c z.symm), ga_0]
