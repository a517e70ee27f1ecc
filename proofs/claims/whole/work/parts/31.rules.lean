/-! THE RULES WITH PLACES WRITTEN OUT -/
section IQR
variable {G : im_G} {dep : Nat} {d : im_J} {R : im_F → Prop} {pc : Nat} {L : List (Nat × Value)} {r : List Value} {M : im_M}
theorem iq_iconst (h : im_St G dep d R) (q : Nat) {n : Int} (hd : decode d.2.1 pc = .ok (.iconst n, 1)) {v : Int32} (hv : (Int32.ofInt n) = v) (hq : pc + 1 = q) (k : R (q, L, .int v :: r, M)) : R (pc, L, r, M) := by subst hq; subst hv; exact is_iconst h hd k
theorem iq_lconst (h : im_St G dep d R) (q : Nat) {n : Fin 2} (hd : decode d.2.1 pc = .ok (.lconst n, 1)) {v : Int64} (hv : (Int64.ofNat (n : Nat)) = v) (hq : pc + 1 = q) (k : R (q, L, .long v :: r, M)) : R (pc, L, r, M) := by subst hq; subst hv; exact is_lconst h hd k
theorem iq_bipush (h : im_St G dep d R) (q : Nat) {n : Int} (hd : decode d.2.1 pc = .ok (.bipush n, 2)) {v : Int32} (hv : (Int8.ofInt n).toInt32 = v) (hq : pc + 2 = q) (k : R (q, L, .int v :: r, M)) : R (pc, L, r, M) := by subst hq; subst hv; exact is_bipush h hd k
theorem iq_sipush (h : im_St G dep d R) (q : Nat) {n : Int} (hd : decode d.2.1 pc = .ok (.sipush n, 3)) {v : Int32} (hv : (Int16.ofInt n).toInt32 = v) (hq : pc + 3 = q) (k : R (q, L, .int v :: r, M)) : R (pc, L, r, M) := by subst hq; subst hv; exact is_sipush h hd k
theorem iq_iload_n (h : im_St G dep d R) (q : Nat) {i : Fin 4} {x : Int32} (hd : decode d.2.1 pc = .ok (.iload_n i, 1)) (hl : im_lk L (i : Nat) = some (.int x)) (hq : pc + 1 = q) (k : R (q, L, .int x :: r, M)) : R (pc, L, r, M) := by subst hq; exact is_iload_n h hd hl k
theorem iq_iload (h : im_St G dep d R) (q : Nat) {i : Nat} {x : Int32} (hd : decode d.2.1 pc = .ok (.iload i, 2)) (hl : im_lk L i = some (.int x)) (hq : pc + 2 = q) (k : R (q, L, .int x :: r, M)) : R (pc, L, r, M) := by subst hq; exact is_iload h hd hl k
theorem iq_lload_n (h : im_St G dep d R) (q : Nat) {i : Fin 4} {x : Int64} (hd : decode d.2.1 pc = .ok (.lload_n i, 1)) (hl : im_lk L (i : Nat) = some (.long x)) (hq : pc + 1 = q) (k : R (q, L, .long x :: r, M)) : R (pc, L, r, M) := by subst hq; exact is_lload_n h hd hl k
theorem iq_lload (h : im_St G dep d R) (q : Nat) {i : Nat} {x : Int64} (hd : decode d.2.1 pc = .ok (.lload i, 2)) (hl : im_lk L i = some (.long x)) (hq : pc + 2 = q) (k : R (q, L, .long x :: r, M)) : R (pc, L, r, M) := by subst hq; exact is_lload h hd hl k
theorem iq_aload_n (h : im_St G dep d R) (q : Nat) {i : Fin 4} {x : Nat} (hd : decode d.2.1 pc = .ok (.aload_n i, 1)) (hl : im_lk L (i : Nat) = some (.ref x)) (hq : pc + 1 = q) (k : R (q, L, .ref x :: r, M)) : R (pc, L, r, M) := by subst hq; exact is_aload_n h hd hl k
theorem iq_aload (h : im_St G dep d R) (q : Nat) {i : Nat} {x : Nat} (hd : decode d.2.1 pc = .ok (.aload i, 2)) (hl : im_lk L i = some (.ref x)) (hq : pc + 2 = q) (k : R (q, L, .ref x :: r, M)) : R (pc, L, r, M) := by subst hq; exact is_aload h hd hl k
theorem iq_istore_n (h : im_St G dep d R) (q : Nat) {i : Fin 4} {x : Int32} (hd : decode d.2.1 pc = .ok (.istore_n i, 1)) (hn : (i : Nat) < d.2.2.1) (hq : pc + 1 = q) (k : R (q, im_st1 L (i : Nat) (.int x), r, M)) : R (pc, L, .int x :: r, M) := by subst hq; exact is_istore_n h hd hn k
theorem iq_istore (h : im_St G dep d R) (q : Nat) {i : Nat} {x : Int32} (hd : decode d.2.1 pc = .ok (.istore i, 2)) (hn : i < d.2.2.1) (hq : pc + 2 = q) (k : R (q, im_st1 L i (.int x), r, M)) : R (pc, L, .int x :: r, M) := by subst hq; exact is_istore h hd hn k
theorem iq_lstore_n (h : im_St G dep d R) (q : Nat) {i : Fin 4} {x : Int64} (hd : decode d.2.1 pc = .ok (.lstore_n i, 1)) (hn : (i : Nat) + 1 < d.2.2.1) (hq : pc + 1 = q) (k : R (q, im_st2 L (i : Nat) (.long x), r, M)) : R (pc, L, .long x :: r, M) := by subst hq; exact is_lstore_n h hd hn k
theorem iq_lstore (h : im_St G dep d R) (q : Nat) {i : Nat} {x : Int64} (hd : decode d.2.1 pc = .ok (.lstore i, 2)) (hn : i + 1 < d.2.2.1) (hq : pc + 2 = q) (k : R (q, im_st2 L i (.long x), r, M)) : R (pc, L, .long x :: r, M) := by subst hq; exact is_lstore h hd hn k
theorem iq_astore_n (h : im_St G dep d R) (q : Nat) {i : Fin 4} {x : Nat} (hd : decode d.2.1 pc = .ok (.astore_n i, 1)) (hn : (i : Nat) < d.2.2.1) (hq : pc + 1 = q) (k : R (q, im_st1 L (i : Nat) (.ref x), r, M)) : R (pc, L, .ref x :: r, M) := by subst hq; exact is_astore_n h hd hn k
theorem iq_astore (h : im_St G dep d R) (q : Nat) {i : Nat} {x : Nat} (hd : decode d.2.1 pc = .ok (.astore i, 2)) (hn : i < d.2.2.1) (hq : pc + 2 = q) (k : R (q, im_st1 L i (.ref x), r, M)) : R (pc, L, .ref x :: r, M) := by subst hq; exact is_astore h hd hn k
theorem iq_iinc (h : im_St G dep d R) (q : Nat) {i : Nat} {n : Int} {x : Int32} (hd : decode d.2.1 pc = .ok (.iinc i n, 3)) (hl : im_lk L i = some (.int x)) (hn : i < d.2.2.1) (hq : pc + 3 = q) (k : R (q, im_st1 L i (.int (x + Int32.ofInt n)), r, M)) : R (pc, L, r, M) := by subst hq; exact is_iinc h hd hl hn k
theorem iq_iadd (h : im_St G dep d R) (q : Nat) {x y : Int32} (hd : decode d.2.1 pc = .ok (.iadd, 1)) (hq : pc + 1 = q) (k : R (q, L, .int (x + y) :: r, M)) : R (pc, L, .int y :: .int x :: r, M) := by subst hq; exact is_iadd h hd k
theorem iq_isub (h : im_St G dep d R) (q : Nat) {x y : Int32} (hd : decode d.2.1 pc = .ok (.isub, 1)) (hq : pc + 1 = q) (k : R (q, L, .int (x - y) :: r, M)) : R (pc, L, .int y :: .int x :: r, M) := by subst hq; exact is_isub h hd k
theorem iq_imul (h : im_St G dep d R) (q : Nat) {x y : Int32} (hd : decode d.2.1 pc = .ok (.imul, 1)) (hq : pc + 1 = q) (k : R (q, L, .int (x * y) :: r, M)) : R (pc, L, .int y :: .int x :: r, M) := by subst hq; exact is_imul h hd k
theorem iq_iand (h : im_St G dep d R) (q : Nat) {x y : Int32} (hd : decode d.2.1 pc = .ok (.iand, 1)) (hq : pc + 1 = q) (k : R (q, L, .int (x &&& y) :: r, M)) : R (pc, L, .int y :: .int x :: r, M) := by subst hq; exact is_iand h hd k
theorem iq_ior (h : im_St G dep d R) (q : Nat) {x y : Int32} (hd : decode d.2.1 pc = .ok (.ior, 1)) (hq : pc + 1 = q) (k : R (q, L, .int (x ||| y) :: r, M)) : R (pc, L, .int y :: .int x :: r, M) := by subst hq; exact is_ior h hd k
theorem iq_ixor (h : im_St G dep d R) (q : Nat) {x y : Int32} (hd : decode d.2.1 pc = .ok (.ixor, 1)) (hq : pc + 1 = q) (k : R (q, L, .int (x ^^^ y) :: r, M)) : R (pc, L, .int y :: .int x :: r, M) := by subst hq; exact is_ixor h hd k
theorem iq_ishl (h : im_St G dep d R) (q : Nat) {x y : Int32} (hd : decode d.2.1 pc = .ok (.ishl, 1)) (hq : pc + 1 = q) (k : R (q, L, .int (x <<< (y &&& 31)) :: r, M)) : R (pc, L, .int y :: .int x :: r, M) := by subst hq; exact is_ishl h hd k
theorem iq_ishr (h : im_St G dep d R) (q : Nat) {x y : Int32} (hd : decode d.2.1 pc = .ok (.ishr, 1)) (hq : pc + 1 = q) (k : R (q, L, .int (x >>> (y &&& 31)) :: r, M)) : R (pc, L, .int y :: .int x :: r, M) := by subst hq; exact is_ishr h hd k
theorem iq_iushr (h : im_St G dep d R) (q : Nat) {x y : Int32} (hd : decode d.2.1 pc = .ok (.iushr, 1)) (hq : pc + 1 = q) (k : R (q, L, .int ((x.toUInt32 >>> (y.toUInt32 &&& Int32.toUInt32 31)).toInt32) :: r, M)) : R (pc, L, .int y :: .int x :: r, M) := by subst hq; exact is_iushr h hd k
theorem iq_idiv (h : im_St G dep d R) (q : Nat) {x y : Int32} (hd : decode d.2.1 pc = .ok (.idiv, 1)) (hy : ¬ y = 0) (hq : pc + 1 = q) (k : R (q, L, .int (x / y) :: r, M)) : R (pc, L, .int y :: .int x :: r, M) := by subst hq; exact is_idiv h hd hy k
theorem iq_irem (h : im_St G dep d R) (q : Nat) {x y : Int32} (hd : decode d.2.1 pc = .ok (.irem, 1)) (hy : ¬ y = 0) (hq : pc + 1 = q) (k : R (q, L, .int (x - x / y * y) :: r, M)) : R (pc, L, .int y :: .int x :: r, M) := by subst hq; exact is_irem h hd hy k
theorem iq_ladd (h : im_St G dep d R) (q : Nat) {x y : Int64} (hd : decode d.2.1 pc = .ok (.ladd, 1)) (hq : pc + 1 = q) (k : R (q, L, .long (x + y) :: r, M)) : R (pc, L, .long y :: .long x :: r, M) := by subst hq; exact is_ladd h hd k
theorem iq_lsub (h : im_St G dep d R) (q : Nat) {x y : Int64} (hd : decode d.2.1 pc = .ok (.lsub, 1)) (hq : pc + 1 = q) (k : R (q, L, .long (x - y) :: r, M)) : R (pc, L, .long y :: .long x :: r, M) := by subst hq; exact is_lsub h hd k
theorem iq_lmul (h : im_St G dep d R) (q : Nat) {x y : Int64} (hd : decode d.2.1 pc = .ok (.lmul, 1)) (hq : pc + 1 = q) (k : R (q, L, .long (x * y) :: r, M)) : R (pc, L, .long y :: .long x :: r, M) := by subst hq; exact is_lmul h hd k
theorem iq_land (h : im_St G dep d R) (q : Nat) {x y : Int64} (hd : decode d.2.1 pc = .ok (.land, 1)) (hq : pc + 1 = q) (k : R (q, L, .long (x &&& y) :: r, M)) : R (pc, L, .long y :: .long x :: r, M) := by subst hq; exact is_land h hd k
theorem iq_lor (h : im_St G dep d R) (q : Nat) {x y : Int64} (hd : decode d.2.1 pc = .ok (.lor, 1)) (hq : pc + 1 = q) (k : R (q, L, .long (x ||| y) :: r, M)) : R (pc, L, .long y :: .long x :: r, M) := by subst hq; exact is_lor h hd k
theorem iq_lxor (h : im_St G dep d R) (q : Nat) {x y : Int64} (hd : decode d.2.1 pc = .ok (.lxor, 1)) (hq : pc + 1 = q) (k : R (q, L, .long (x ^^^ y) :: r, M)) : R (pc, L, .long y :: .long x :: r, M) := by subst hq; exact is_lxor h hd k
theorem iq_ldiv (h : im_St G dep d R) (q : Nat) {x y : Int64} (hd : decode d.2.1 pc = .ok (.ldiv, 1)) (hy : ¬ y = 0) (hq : pc + 1 = q) (k : R (q, L, .long (x / y) :: r, M)) : R (pc, L, .long y :: .long x :: r, M) := by subst hq; exact is_ldiv h hd hy k
theorem iq_lrem (h : im_St G dep d R) (q : Nat) {x y : Int64} (hd : decode d.2.1 pc = .ok (.lrem, 1)) (hy : ¬ y = 0) (hq : pc + 1 = q) (k : R (q, L, .long (x - x / y * y) :: r, M)) : R (pc, L, .long y :: .long x :: r, M) := by subst hq; exact is_lrem h hd hy k
theorem iq_lshl (h : im_St G dep d R) (q : Nat) {x : Int64} {y : Int32} (hd : decode d.2.1 pc = .ok (.lshl, 1)) (hq : pc + 1 = q) (k : R (q, L, .long (x <<< (y.toInt64 &&& 63)) :: r, M)) : R (pc, L, .int y :: .long x :: r, M) := by subst hq; exact is_lshl h hd k
theorem iq_lshr (h : im_St G dep d R) (q : Nat) {x : Int64} {y : Int32} (hd : decode d.2.1 pc = .ok (.lshr, 1)) (hq : pc + 1 = q) (k : R (q, L, .long (x >>> (y.toInt64 &&& 63)) :: r, M)) : R (pc, L, .int y :: .long x :: r, M) := by subst hq; exact is_lshr h hd k
theorem iq_lushr (h : im_St G dep d R) (q : Nat) {x : Int64} {y : Int32} (hd : decode d.2.1 pc = .ok (.lushr, 1)) (hq : pc + 1 = q) (k : R (q, L, .long ((x.toUInt64 >>> (y.toInt64.toUInt64 &&& Int64.toUInt64 63)).toInt64) :: r, M)) : R (pc, L, .int y :: .long x :: r, M) := by subst hq; exact is_lushr h hd k
theorem iq_ineg (h : im_St G dep d R) (q : Nat) {x : Int32} (hd : decode d.2.1 pc = .ok (.ineg, 1)) (hq : pc + 1 = q) (k : R (q, L, .int (-x) :: r, M)) : R (pc, L, .int x :: r, M) := by subst hq; exact is_ineg h hd k
theorem iq_i2b (h : im_St G dep d R) (q : Nat) {x : Int32} (hd : decode d.2.1 pc = .ok (.i2b, 1)) (hq : pc + 1 = q) (k : R (q, L, .int (x.toInt8.toInt32) :: r, M)) : R (pc, L, .int x :: r, M) := by subst hq; exact is_i2b h hd k
theorem iq_i2s (h : im_St G dep d R) (q : Nat) {x : Int32} (hd : decode d.2.1 pc = .ok (.i2s, 1)) (hq : pc + 1 = q) (k : R (q, L, .int (x.toInt16.toInt32) :: r, M)) : R (pc, L, .int x :: r, M) := by subst hq; exact is_i2s h hd k
theorem iq_i2c (h : im_St G dep d R) (q : Nat) {x : Int32} (hd : decode d.2.1 pc = .ok (.i2c, 1)) (hq : pc + 1 = q) (k : R (q, L, .int ((x.toUInt32 % 65536).toInt32) :: r, M)) : R (pc, L, .int x :: r, M) := by subst hq; exact is_i2c h hd k
theorem iq_i2l (h : im_St G dep d R) (q : Nat) {x : Int32} (hd : decode d.2.1 pc = .ok (.i2l, 1)) (hq : pc + 1 = q) (k : R (q, L, .long x.toInt64 :: r, M)) : R (pc, L, .int x :: r, M) := by subst hq; exact is_i2l h hd k
theorem iq_l2i (h : im_St G dep d R) (q : Nat) {x : Int64} (hd : decode d.2.1 pc = .ok (.l2i, 1)) (hq : pc + 1 = q) (k : R (q, L, .int x.toInt32 :: r, M)) : R (pc, L, .long x :: r, M) := by subst hq; exact is_l2i h hd k
theorem iq_lneg (h : im_St G dep d R) (q : Nat) {x : Int64} (hd : decode d.2.1 pc = .ok (.lneg, 1)) (hq : pc + 1 = q) (k : R (q, L, .long (-x) :: r, M)) : R (pc, L, .long x :: r, M) := by subst hq; exact is_lneg h hd k
theorem iq_lcmp (h : im_St G dep d R) (q : Nat) {x y : Int64} (hd : decode d.2.1 pc = .ok (.lcmp, 1)) (hq : pc + 1 = q) (k : R (q, L, .int (lg_cmp x y) :: r, M)) : R (pc, L, .long y :: .long x :: r, M) := by subst hq; exact is_lcmp h hd k
theorem iq_dup (h : im_St G dep d R) (q : Nat) {v : Value} (hd : decode d.2.1 pc = .ok (.dup, 1)) (hv : v.category = 1) (hq : pc + 1 = q) (k : R (q, L, v :: v :: r, M)) : R (pc, L, v :: r, M) := by subst hq; exact is_dup h hd hv k
theorem iq_pop (h : im_St G dep d R) (q : Nat) {v : Value} (hd : decode d.2.1 pc = .ok (.pop, 1)) (hv : v.category = 1) (hq : pc + 1 = q) (k : R (q, L, r, M)) : R (pc, L, v :: r, M) := by subst hq; exact is_pop h hd hv k
theorem iq_dup2 (h : im_St G dep d R) (q : Nat) {v w : Value} (hd : decode d.2.1 pc = .ok (.dup2, 1)) (hv : v.category = 1) (hw : w.category = 1) (hq : pc + 1 = q) (k : R (q, L, v :: w :: v :: w :: r, M)) : R (pc, L, v :: w :: r, M) := by subst hq; exact is_dup2 h hd hv hw k
theorem iq_dup2l (h : im_St G dep d R) (q : Nat) {v : Int64} {w : Value} (hd : decode d.2.1 pc = .ok (.dup2, 1)) (hq : pc + 1 = q) (k : R (q, L, .long v :: .long v :: w :: r, M)) : R (pc, L, .long v :: w :: r, M) := by subst hq; exact is_dup2l h hd k
theorem iq_goto (h : im_St G dep d R) {off : Int} {t : Nat} (hd : decode d.2.1 pc = .ok (.goto off, 3)) (ht : (pc : Int) + off = (t : Int)) (k : R (t, L, r, M)) : R (pc, L, r, M) := is_goto h hd ht k
theorem iq_if_eq (h : im_St G dep d R) (q : Nat) {x : Int32} {off : Int} {t : Nat} (hd : decode d.2.1 pc = .ok (.ifCond .eq off, 3)) (ht : (pc : Int) + off = (t : Int)) (kt : x = 0 → R (t, L, r, M)) (hq : pc + 3 = q) (kf : ¬ (x = 0) → R (q, L, r, M)) : R (pc, L, .int x :: r, M) := by subst hq; exact is_if_eq h hd ht kt kf
theorem iq_icmp_eq (h : im_St G dep d R) (q : Nat) {x y : Int32} {off : Int} {t : Nat} (hd : decode d.2.1 pc = .ok (.if_icmp .eq off, 3)) (ht : (pc : Int) + off = (t : Int)) (kt : x = y → R (t, L, r, M)) (hq : pc + 3 = q) (kf : ¬ (x = y) → R (q, L, r, M)) : R (pc, L, .int y :: .int x :: r, M) := by subst hq; exact is_icmp_eq h hd ht kt kf
theorem iq_if_ne (h : im_St G dep d R) (q : Nat) {x : Int32} {off : Int} {t : Nat} (hd : decode d.2.1 pc = .ok (.ifCond .ne off, 3)) (ht : (pc : Int) + off = (t : Int)) (kt : ¬ x = 0 → R (t, L, r, M)) (hq : pc + 3 = q) (kf : ¬ (¬ x = 0) → R (q, L, r, M)) : R (pc, L, .int x :: r, M) := by subst hq; exact is_if_ne h hd ht kt kf
theorem iq_icmp_ne (h : im_St G dep d R) (q : Nat) {x y : Int32} {off : Int} {t : Nat} (hd : decode d.2.1 pc = .ok (.if_icmp .ne off, 3)) (ht : (pc : Int) + off = (t : Int)) (kt : ¬ x = y → R (t, L, r, M)) (hq : pc + 3 = q) (kf : ¬ (¬ x = y) → R (q, L, r, M)) : R (pc, L, .int y :: .int x :: r, M) := by subst hq; exact is_icmp_ne h hd ht kt kf
theorem iq_if_lt (h : im_St G dep d R) (q : Nat) {x : Int32} {off : Int} {t : Nat} (hd : decode d.2.1 pc = .ok (.ifCond .lt off, 3)) (ht : (pc : Int) + off = (t : Int)) (kt : x < 0 → R (t, L, r, M)) (hq : pc + 3 = q) (kf : ¬ (x < 0) → R (q, L, r, M)) : R (pc, L, .int x :: r, M) := by subst hq; exact is_if_lt h hd ht kt kf
theorem iq_icmp_lt (h : im_St G dep d R) (q : Nat) {x y : Int32} {off : Int} {t : Nat} (hd : decode d.2.1 pc = .ok (.if_icmp .lt off, 3)) (ht : (pc : Int) + off = (t : Int)) (kt : x < y → R (t, L, r, M)) (hq : pc + 3 = q) (kf : ¬ (x < y) → R (q, L, r, M)) : R (pc, L, .int y :: .int x :: r, M) := by subst hq; exact is_icmp_lt h hd ht kt kf
theorem iq_if_ge (h : im_St G dep d R) (q : Nat) {x : Int32} {off : Int} {t : Nat} (hd : decode d.2.1 pc = .ok (.ifCond .ge off, 3)) (ht : (pc : Int) + off = (t : Int)) (kt : 0 ≤ x → R (t, L, r, M)) (hq : pc + 3 = q) (kf : ¬ (0 ≤ x) → R (q, L, r, M)) : R (pc, L, .int x :: r, M) := by subst hq; exact is_if_ge h hd ht kt kf
theorem iq_icmp_ge (h : im_St G dep d R) (q : Nat) {x y : Int32} {off : Int} {t : Nat} (hd : decode d.2.1 pc = .ok (.if_icmp .ge off, 3)) (ht : (pc : Int) + off = (t : Int)) (kt : y ≤ x → R (t, L, r, M)) (hq : pc + 3 = q) (kf : ¬ (y ≤ x) → R (q, L, r, M)) : R (pc, L, .int y :: .int x :: r, M) := by subst hq; exact is_icmp_ge h hd ht kt kf
theorem iq_if_gt (h : im_St G dep d R) (q : Nat) {x : Int32} {off : Int} {t : Nat} (hd : decode d.2.1 pc = .ok (.ifCond .gt off, 3)) (ht : (pc : Int) + off = (t : Int)) (kt : 0 < x → R (t, L, r, M)) (hq : pc + 3 = q) (kf : ¬ (0 < x) → R (q, L, r, M)) : R (pc, L, .int x :: r, M) := by subst hq; exact is_if_gt h hd ht kt kf
theorem iq_icmp_gt (h : im_St G dep d R) (q : Nat) {x y : Int32} {off : Int} {t : Nat} (hd : decode d.2.1 pc = .ok (.if_icmp .gt off, 3)) (ht : (pc : Int) + off = (t : Int)) (kt : y < x → R (t, L, r, M)) (hq : pc + 3 = q) (kf : ¬ (y < x) → R (q, L, r, M)) : R (pc, L, .int y :: .int x :: r, M) := by subst hq; exact is_icmp_gt h hd ht kt kf
theorem iq_if_le (h : im_St G dep d R) (q : Nat) {x : Int32} {off : Int} {t : Nat} (hd : decode d.2.1 pc = .ok (.ifCond .le off, 3)) (ht : (pc : Int) + off = (t : Int)) (kt : x ≤ 0 → R (t, L, r, M)) (hq : pc + 3 = q) (kf : ¬ (x ≤ 0) → R (q, L, r, M)) : R (pc, L, .int x :: r, M) := by subst hq; exact is_if_le h hd ht kt kf
theorem iq_icmp_le (h : im_St G dep d R) (q : Nat) {x y : Int32} {off : Int} {t : Nat} (hd : decode d.2.1 pc = .ok (.if_icmp .le off, 3)) (ht : (pc : Int) + off = (t : Int)) (kt : x ≤ y → R (t, L, r, M)) (hq : pc + 3 = q) (kf : ¬ (x ≤ y) → R (q, L, r, M)) : R (pc, L, .int y :: .int x :: r, M) := by subst hq; exact is_icmp_le h hd ht kt kf
theorem iq_getI (h : im_St G dep d R) (q : Nat) {k ci f a : Nat} (hd : decode d.2.1 pc = .ok (.getfield k, 3)) (hf : ig_fT G d.2.2.2.2.2.2 k = some (ci, f)) (ht : ig_ty G ci f = .int ∨ ig_ty G ci f = .boolean) (ha : a < im_n M ∧ (im_k M a).1 = ci) (hq : pc + 3 = q) (k' : R (q, L, .int (im_i M a f) :: r, M)) : R (pc, L, .ref a :: r, M) := by subst hq; exact is_getI h hd hf ht ha k'
theorem iq_getL (h : im_St G dep d R) (q : Nat) {k ci f a : Nat} (hd : decode d.2.1 pc = .ok (.getfield k, 3)) (hf : ig_fT G d.2.2.2.2.2.2 k = some (ci, f)) (ht : ig_ty G ci f = .long) (ha : a < im_n M ∧ (im_k M a).1 = ci) (hq : pc + 3 = q) (k' : R (q, L, .long (im_l M a f) :: r, M)) : R (pc, L, .ref a :: r, M) := by subst hq; exact is_getL h hd hf ht ha k'
theorem iq_getR (h : im_St G dep d R) (q : Nat) {k ci f a b : Nat} (hd : decode d.2.1 pc = .ok (.getfield k, 3)) (hf : ig_fT G d.2.2.2.2.2.2 k = some (ci, f)) (ht : (∃ q, ig_ty G ci f = .object q) ∨ ∃ q, ig_ty G ci f = .array q) (ha : a < im_n M ∧ (im_k M a).1 = ci) (hb : im_r M a f = some b) (hq : pc + 3 = q) (k' : R (q, L, .ref b :: r, M)) : R (pc, L, .ref a :: r, M) := by subst hq; exact is_getR h hd hf ht ha hb k'
theorem iq_putI (h : im_St G dep d R) (q : Nat) {k ci f a : Nat} {x : Int32} (hd : decode d.2.1 pc = .ok (.putfield k, 3)) (hf : ig_fT G d.2.2.2.2.2.2 k = some (ci, f)) (hw : im_isF (ig_cl G) ci f = false ∨ (decide (2 ≤ d.2.2.2.2.2.1) = true ∧ im_ownF (ig_cl G) ci f = ig_nm G d.2.2.2.2.2.2)) (ht : ig_ty G ci f = .int) (ha : a < im_n M ∧ (im_k M a).1 = ci) (hq : pc + 3 = q) (k' : R (q, L, r, im_setI M a f x)) : R (pc, L, .int x :: .ref a :: r, M) := by subst hq; exact is_putI h hd hf hw ht ha k'
theorem iq_putZ (h : im_St G dep d R) (q : Nat) {k ci f a : Nat} {x : Int32} (hd : decode d.2.1 pc = .ok (.putfield k, 3)) (hf : ig_fT G d.2.2.2.2.2.2 k = some (ci, f)) (hw : im_isF (ig_cl G) ci f = false ∨ (decide (2 ≤ d.2.2.2.2.2.1) = true ∧ im_ownF (ig_cl G) ci f = ig_nm G d.2.2.2.2.2.2)) (ht : ig_ty G ci f = .boolean) (ha : a < im_n M ∧ (im_k M a).1 = ci) (hx : x = 0 ∨ x = 1) (hq : pc + 3 = q) (k' : R (q, L, r, im_setI M a f x)) : R (pc, L, .int x :: .ref a :: r, M) := by subst hq; exact is_putZ h hd hf hw ht ha hx k'
theorem iq_putL (h : im_St G dep d R) (q : Nat) {k ci f a : Nat} {x : Int64} (hd : decode d.2.1 pc = .ok (.putfield k, 3)) (hf : ig_fT G d.2.2.2.2.2.2 k = some (ci, f)) (hw : im_isF (ig_cl G) ci f = false ∨ (decide (2 ≤ d.2.2.2.2.2.1) = true ∧ im_ownF (ig_cl G) ci f = ig_nm G d.2.2.2.2.2.2)) (ht : ig_ty G ci f = .long) (ha : a < im_n M ∧ (im_k M a).1 = ci) (hq : pc + 3 = q) (k' : R (q, L, r, im_setL M a f x)) : R (pc, L, .long x :: .ref a :: r, M) := by subst hq; exact is_putL h hd hf hw ht ha k'
theorem iq_putR (h : im_St G dep d R) (q : Nat) {k ci f a b : Nat} (hd : decode d.2.1 pc = .ok (.putfield k, 3)) (hf : ig_fT G d.2.2.2.2.2.2 k = some (ci, f)) (hw : im_isF (ig_cl G) ci f = false ∨ (decide (2 ≤ d.2.2.2.2.2.1) = true ∧ im_ownF (ig_cl G) ci f = ig_nm G d.2.2.2.2.2.2)) (ht : (∃ q, ig_ty G ci f = .object q) ∨ ∃ q, ig_ty G ci f = .array q) (ha : a < im_n M ∧ (im_k M a).1 = ci) (hq : pc + 3 = q) (k' : R (q, L, r, im_setR M a f (some b))) : R (pc, L, .ref b :: .ref a :: r, M) := by subst hq; exact is_putR h hd hf hw ht ha k'
theorem iq_iaload (h : im_St G dep d R) (q : Nat) {a : Nat} {i : Int32} (hd : decode d.2.1 pc = .ok (.iaload, 1)) (ha : a < im_n M ∧ (im_k M a).1 = 33 ∧ 0 ≤ i.toInt ∧ i.toInt < (im_k M a).2) (hq : pc + 1 = q) (k : R (q, L, .int (im_i M a i.toNatClampNeg) :: r, M)) : R (pc, L, .int i :: .ref a :: r, M) := by subst hq; exact is_iaload h hd ha k
theorem iq_saload (h : im_St G dep d R) (q : Nat) {a : Nat} {i : Int32} (hd : decode d.2.1 pc = .ok (.saload, 1)) (ha : a < im_n M ∧ (im_k M a).1 = 35 ∧ 0 ≤ i.toInt ∧ i.toInt < (im_k M a).2) (hq : pc + 1 = q) (k : R (q, L, .int (im_i M a i.toNatClampNeg) :: r, M)) : R (pc, L, .int i :: .ref a :: r, M) := by subst hq; exact is_saload h hd ha k
theorem iq_laload (h : im_St G dep d R) (q : Nat) {a : Nat} {i : Int32} (hd : decode d.2.1 pc = .ok (.laload, 1)) (ha : a < im_n M ∧ (im_k M a).1 = 34 ∧ 0 ≤ i.toInt ∧ i.toInt < (im_k M a).2) (hq : pc + 1 = q) (k : R (q, L, .long (im_l M a i.toNatClampNeg) :: r, M)) : R (pc, L, .int i :: .ref a :: r, M) := by subst hq; exact is_laload h hd ha k
theorem iq_baload (h : im_St G dep d R) (q : Nat) {a : Nat} {i : Int32} (hd : decode d.2.1 pc = .ok (.baload, 1)) (ha : a < im_n M ∧ (im_k M a).1 = 32 ∧ 0 ≤ i.toInt ∧ i.toInt < (im_k M a).2) (hq : pc + 1 = q) (k : R (q, L, .int (im_i M a i.toNatClampNeg) :: r, M)) : R (pc, L, .int i :: .ref a :: r, M) := by subst hq; exact is_baload h hd ha k
theorem iq_zaload (h : im_St G dep d R) (q : Nat) {a : Nat} {i : Int32} (hd : decode d.2.1 pc = .ok (.baload, 1)) (ha : a < im_n M ∧ (im_k M a).1 = 36 ∧ 0 ≤ i.toInt ∧ i.toInt < (im_k M a).2) (hq : pc + 1 = q) (k : R (q, L, .int (im_i M a i.toNatClampNeg) :: r, M)) : R (pc, L, .int i :: .ref a :: r, M) := by subst hq; exact is_zaload h hd ha k
theorem iq_bastore (h : im_St G dep d R) (q : Nat) {a : Nat} {i x : Int32} (hd : decode d.2.1 pc = .ok (.bastore, 1)) (ha : a < im_n M ∧ (im_k M a).1 = 32 ∧ 0 ≤ i.toInt ∧ i.toInt < (im_k M a).2) (hq : pc + 1 = q) (k : R (q, L, r, im_setI M a i.toNatClampNeg (vp_nar .byte x))) : R (pc, L, .int x :: .int i :: .ref a :: r, M) := by subst hq; exact is_bastore h hd ha k
theorem iq_zastore (h : im_St G dep d R) (q : Nat) {a : Nat} {i x : Int32} (hd : decode d.2.1 pc = .ok (.bastore, 1)) (ha : a < im_n M ∧ (im_k M a).1 = 36 ∧ 0 ≤ i.toInt ∧ i.toInt < (im_k M a).2) (hq : pc + 1 = q) (k : R (q, L, r, im_setI M a i.toNatClampNeg (vp_nar .boolean x))) : R (pc, L, .int x :: .int i :: .ref a :: r, M) := by subst hq; exact is_zastore h hd ha k
theorem iq_iastore (h : im_St G dep d R) (q : Nat) {a : Nat} {i x : Int32} (hd : decode d.2.1 pc = .ok (.iastore, 1)) (ha : a < im_n M ∧ (im_k M a).1 = 33 ∧ 0 ≤ i.toInt ∧ i.toInt < (im_k M a).2) (hq : pc + 1 = q) (k : R (q, L, r, im_setI M a i.toNatClampNeg x)) : R (pc, L, .int x :: .int i :: .ref a :: r, M) := by subst hq; exact is_iastore h hd ha k
theorem iq_sastore (h : im_St G dep d R) (q : Nat) {a : Nat} {i x : Int32} (hd : decode d.2.1 pc = .ok (.sastore, 1)) (ha : a < im_n M ∧ (im_k M a).1 = 35 ∧ 0 ≤ i.toInt ∧ i.toInt < (im_k M a).2) (hq : pc + 1 = q) (k : R (q, L, r, im_setI M a i.toNatClampNeg (vp_nar .short x))) : R (pc, L, .int x :: .int i :: .ref a :: r, M) := by subst hq; exact is_sastore h hd ha k
theorem iq_lastore (h : im_St G dep d R) (q : Nat) {a : Nat} {i : Int32} {x : Int64} (hd : decode d.2.1 pc = .ok (.lastore, 1)) (ha : a < im_n M ∧ (im_k M a).1 = 34 ∧ 0 ≤ i.toInt ∧ i.toInt < (im_k M a).2) (hq : pc + 1 = q) (k : R (q, L, r, im_setL M a i.toNatClampNeg x)) : R (pc, L, .long x :: .int i :: .ref a :: r, M) := by subst hq; exact is_lastore h hd ha k
theorem iq_alen (h : im_St G dep d R) (q : Nat) {a : Nat} (hd : decode d.2.1 pc = .ok (.arraylength, 1)) (ha : a < im_n M ∧ 32 ≤ (im_k M a).1 ∧ (im_k M a).1 < 37) (hq : pc + 1 = q) (k : R (q, L, .int (Int32.ofNat (im_k M a).2) :: r, M)) : R (pc, L, .ref a :: r, M) := by subst hq; exact is_alen h hd ha k
theorem iq_ldc (h : im_St G dep d R) (q : Nat) {k : Nat} {v : Int32} (hd : decode d.2.1 pc = .ok (.ldc k, 2)) (hc : ig_cT G d.2.2.2.2.2.2 k = some (.int v)) (hq : pc + 2 = q) (k' : R (q, L, .int v :: r, M)) : R (pc, L, r, M) := by subst hq; exact is_ldc h hd hc k'
theorem iq_ldc_w (h : im_St G dep d R) (q : Nat) {k : Nat} {v : Int32} (hd : decode d.2.1 pc = .ok (.ldc_w k, 3)) (hc : ig_cT G d.2.2.2.2.2.2 k = some (.int v)) (hq : pc + 3 = q) (k' : R (q, L, .int v :: r, M)) : R (pc, L, r, M) := by subst hq; exact is_ldc_w h hd hc k'
theorem iq_ldc2_w (h : im_St G dep d R) (q : Nat) {k : Nat} {v : Int64} (hd : decode d.2.1 pc = .ok (.ldc2_w k, 3)) (hc : ig_cT G d.2.2.2.2.2.2 k = some (.long v)) (hq : pc + 3 = q) (k' : R (q, L, .long v :: r, M)) : R (pc, L, r, M) := by subst hq; exact is_ldc2_w h hd hc k'
theorem iq_getstatic (h : im_St G dep d R) (q : Nat) {k : Nat} {v : Value} (hd : decode d.2.1 pc = .ok (.getstatic k, 3)) (hc : ig_gT G d.2.2.2.2.2.2 k = some v) (hq : pc + 3 = q) (k' : R (q, L, v :: r, M)) : R (pc, L, r, M) := by subst hq; exact is_getstatic h hd hc k'
theorem iq_newa (h : im_St G dep d R) (q : Nat) {t : ArrayType} {n : Int32} {N : Nat} (hd : decode d.2.1 pc = .ok (.newarray t, 2)) (hx : im_x M = true) (hm : im_n M < 1000000) (hk : 32 ≤ im_akind t) (hn : ¬ n < 0) (hN : n.toNatClampNeg = N) (hb : N * 8 ≤ 536870912) (hq : pc + 2 = q) (k : R (q, L, .ref (im_n M) :: r, im_mk M (im_akind t, N))) : R (pc, L, .int n :: r, M) := by
  subst hq; subst hN
  exact h.1 _ _ _ _ hd rfl (by simp only [im_one, im_ok, if_true, im_newa]; rw [if_pos ⟨hx, hm, hk, hn, hb⟩]) k
theorem iq_new {P : Option Value → im_M → Prop} (q : Nat) {k ci : Nat} (hd : decode d.2.1 pc = .ok (.new k, 3)) (hc : ig_nT G d.2.2.2.2.2.2 k = some ci) (hx : im_x M = true) (hm : im_n M < 1000000) (hl : ci < 32) (hq : pc + 3 = q) (kk : ia G dep d P (q, L, .ref (im_n M) :: r, im_mk M (ci, 0))) : ia G dep d P (pc, L, r, M) := by
  subst hq
  obtain ⟨n, v, M', h, hP⟩ := kk
  refine ⟨n + 1, v, M', ?_, hP⟩
  unfold im_run
  rw [hd]
  simp only [im_isret, im_iscall, im_nat, im_one, im_ok, if_true, im_new, hc]
  rw [if_neg (by decide), if_pos ⟨hx, hm, hl⟩]
  exact h
theorem iq_oinit (h : im_St G dep d R) (q : Nat) {k a : Nat} (hd : decode d.2.1 pc = .ok (.invokespecial k, 3)) (ho : ig_oT G d.2.2.2.2.2.2 k = true) (hr : (r.map fun v => v.category).sum ≤ 8) (hq : pc + 3 = q) (kk : R (q, L, r, M)) : R (pc, L, .ref a :: r, M) := by
  subst hq
  exact h.2.1 _ _ _ hd (by simp [im_iscall, ho]) rfl (fun k q => by cases q) (by simp [im_nat, ho, im_ok, im_oinit, hr]) kk
theorem iq_copy (h : im_St G dep d R) (q : Nat) {k a b : Nat} {n dp sp : Int32} (hd : decode d.2.1 pc = .ok (.invokestatic k, 3)) (ho : ig_aT G d.2.2.2.2.2.2 k = true) (hc : a < im_n M ∧ b < im_n M ∧ (im_k M a).1 = (im_k M b).1 ∧ ((im_k M a).1 = 32 ∨ (im_k M a).1 = 33) ∧ ¬ sp < 0 ∧ ¬ dp < 0 ∧ ¬ n < 0 ∧ sp.toNatClampNeg + n.toNatClampNeg ≤ (im_k M b).2 ∧ dp.toNatClampNeg + n.toNatClampNeg ≤ (im_k M a).2 ∧ (r.map fun v => v.category).sum ≤ 8) (hq : pc + 3 = q) (kk : R (q, L, r, im_setA M a (va_cpy (im_i M b) (im_i M a) sp.toNatClampNeg dp.toNatClampNeg n.toNatClampNeg))) : R (pc, L, .int n :: .int dp :: .ref a :: .int sp :: .ref b :: r, M) := by
  subst hq
  refine h.2.1 _ _ _ hd (by simp [im_iscall, ho]) rfl (fun k q => by cases q) ?_ kk
  simp only [im_nat, ho, im_ok, if_true, im_acopy]
  rw [if_pos hc]
/-- a call, out of the callee's run -/
theorem iq_call {dep : Nat} (h : im_St G (dep + 1) d R) (q : Nat) {i : Instr} {k kd : Nat} {d' : im_J} {st vs rest : List Value} {P : Option Value → im_M → Prop} (hd : decode d.2.1 pc = .ok (i, 3)) (hc : im_iscall G d i = some (k, kd)) (hp : im_prep G d.2.2.2.2.2.2 k kd (pc, L, st, M) = some (d', vs, rest)) (hcal : ia G dep d' P (0, lv_args 0 vs, [], M)) (hq : pc + 3 = q) (kk : ∀ v M1, P v M1 → R (q, L, v.toList ++ rest, M1)) : R (pc, L, st, M) := by
  subst hq
  exact h.2.2 _ _ _ _ _ _ _ P hd hc hp hcal kk
theorem iq_ret {P : Option Value → im_M → Prop} (hd : decode d.2.1 pc = .ok (.return_, 1)) (hr : d.2.2.2.1 = none) (hP : P none M) : ia G dep d P (pc, L, [], M) := by
  refine ⟨1, none, M, ?_, hP⟩
  unfold im_run
  rw [hd]
  simp [im_isret, im_ret, hr]
theorem iq_iret {P : Option Value → im_M → Prop} {t : FieldType} {v : Int32} (hd : decode d.2.1 pc = .ok (.ireturn, 1)) (hr : d.2.2.2.1 = some t) (hn : narrow t (.int v) = .int v) (hP : P (some (.int v)) M) : ia G dep d P (pc, L, [.int v], M) := by
  refine ⟨1, some (.int v), M, ?_, hP⟩
  unfold im_run
  rw [hd]
  simp [im_isret, im_ret, hr, hn]
theorem iq_lret {P : Option Value → im_M → Prop} {v : Int64} (hd : decode d.2.1 pc = .ok (.lreturn, 1)) (hr : d.2.2.2.1 = some .long) (hP : P (some (.long v)) M) : ia G dep d P (pc, L, [.long v], M) := by
  refine ⟨1, some (.long v), M, ?_, hP⟩
  unfold im_run
  rw [hd]
  simp [im_isret, im_ret, hr]
theorem iq_aret {P : Option Value → im_M → Prop} {t : FieldType} {a : Nat} (hd : decode d.2.1 pc = .ok (.areturn, 1)) (hr : d.2.2.2.1 = some (.array t)) (hP : P (some (.ref a)) M) : ia G dep d P (pc, L, [.ref a], M) := by
  refine ⟨1, some (.ref a), M, ?_, hP⟩
  unfold im_run
  rw [hd]
  simp [im_isret, im_ret, hr]
/-- locals after a store -/
theorem lk_1 {L : List (Nat × Value)} {i j : Nat} {v w : Value} (h : im_lk L j = some w) (hj : j ≠ i) (hc : ¬ (j + 1 = i ∧ w.category = 2)) : im_lk (im_st1 L i v) j = some w := by
  unfold im_st1
  unfold im_lk
  rw [if_neg (fun q => hj q.symm)]
  induction L with
  | nil => cases h
  | cons q r ih =>
    unfold im_lk at h
    by_cases hq : q.1 = j
    · rw [if_pos hq] at h
      cases h
      have : (!(q.1 == i) && !(q.1 + 1 == i && q.2.category == 2)) = true := by
        subst hq
        simp only [Bool.and_eq_true, Bool.not_eq_true', beq_eq_false_iff_ne, Bool.and_eq_false_imp, beq_iff_eq]
        exact ⟨hj, fun e => fun e2 => hc ⟨e, e2⟩⟩
      rw [List.filter_cons_of_pos (by exact this)]
      unfold im_lk
      rw [if_pos hq]
    · rw [if_neg hq] at h
      by_cases hf : (!(q.1 == i) && !(q.1 + 1 == i && q.2.category == 2)) = true
      · rw [List.filter_cons_of_pos (by exact hf)]
        unfold im_lk
        rw [if_neg hq]
        exact ih h
      · rw [List.filter_cons_of_neg (by exact hf)]
        exact ih h
theorem lk_2 {L : List (Nat × Value)} {i j : Nat} {v w : Value} (h : im_lk L j = some w) (hj : j ≠ i) (hj1 : j ≠ i + 1) (hc : ¬ (j + 1 = i ∧ w.category = 2)) : im_lk (im_st2 L i v) j = some w := by
  unfold im_st2
  unfold im_lk
  rw [if_neg (fun q => hj q.symm)]
  induction L with
  | nil => cases h
  | cons q r ih =>
    unfold im_lk at h
    by_cases hq : q.1 = j
    · rw [if_pos hq] at h
      cases h
      have : (!(q.1 == i) && (!(q.1 == i + 1) && !(q.1 + 1 == i && q.2.category == 2))) = true := by
        subst hq
        simp only [Bool.and_eq_true, Bool.not_eq_true', beq_eq_false_iff_ne, Bool.and_eq_false_imp, beq_iff_eq]
        exact ⟨hj, hj1, fun e => fun e2 => hc ⟨e, e2⟩⟩
      rw [List.filter_cons_of_pos (by exact this)]
      unfold im_lk
      rw [if_pos hq]
    · rw [if_neg hq] at h
      by_cases hf : (!(q.1 == i) && (!(q.1 == i + 1) && !(q.1 + 1 == i && q.2.category == 2))) = true
      · rw [List.filter_cons_of_pos (by exact hf)]
        unfold im_lk
        rw [if_neg hq]
        exact ih h
      · rw [List.filter_cons_of_neg (by exact hf)]
        exact ih h
theorem lk_1s {L : List (Nat × Value)} {i : Nat} {v : Value} : im_lk (im_st1 L i v) i = some v := by simp [im_st1, im_lk]
theorem lk_2s {L : List (Nat × Value)} {i : Nat} {v : Value} : im_lk (im_st2 L i v) i = some v := by simp [im_st2, im_lk]
/-- what lies outside -/
theorem iq_xiaload (h : im_St G dep d R) (q : Nat) {a : Nat} {i : Int32} (hd : decode d.2.1 pc = .ok (.iaload, 1)) (hm : ¬ a < im_n M) (ha : (ig_xk G a).1 = 33 ∧ 0 ≤ i.toInt ∧ i.toInt < (ig_xk G a).2) (hq : pc + 1 = q) (k : R (q, L, .int (ig_xi G a i.toNatClampNeg) :: r, M)) : R (pc, L, .int i :: .ref a :: r, M) := by
  subst hq
  refine ia_oneX h hd rfl ?_ ?_ k
  · simp only [im_step, im_ok, if_true, im_ald]
    rw [if_neg (fun q => hm q.1)]
  · simp only [im_stepX, im_ok, if_true, im_xald]
    rw [if_pos ha]
theorem iq_xbaload (h : im_St G dep d R) (q : Nat) {a : Nat} {i : Int32} (hd : decode d.2.1 pc = .ok (.baload, 1)) (hm : ¬ a < im_n M) (ha : (ig_xk G a).1 = 32 ∧ 0 ≤ i.toInt ∧ i.toInt < (ig_xk G a).2) (hq : pc + 1 = q) (k : R (q, L, .int (ig_xi G a i.toNatClampNeg) :: r, M)) : R (pc, L, .int i :: .ref a :: r, M) := by
  subst hq
  refine ia_oneX h hd rfl ?_ ?_ k
  · simp only [im_step, im_ok, if_true, im_ald]
    split <;> rw [if_neg (fun q => hm q.1)]
  · simp only [im_stepX, im_ok, if_true, im_xald]
    rw [if_pos ha]
theorem iq_xalen (h : im_St G dep d R) (q : Nat) {a : Nat} (hd : decode d.2.1 pc = .ok (.arraylength, 1)) (hm : ¬ a < im_n M) (ha : (ig_xk G a).1 = 33 ∨ (ig_xk G a).1 = 32) (hq : pc + 1 = q) (k : R (q, L, .int (Int32.ofNat (ig_xk G a).2) :: r, M)) : R (pc, L, .ref a :: r, M) := by
  subst hq
  refine ia_oneX h hd rfl ?_ ?_ k
  · simp only [im_step, im_ok, if_true, im_alen]
    rw [if_neg (fun q => hm q.1)]
  · simp only [im_stepX, im_ok, if_true, im_xlen]
    rw [if_pos ha]
end IQR
