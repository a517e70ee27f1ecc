/-! METHODS AS FUNCTIONS -/
noncomputable def f_MSquareRows_check_L49 (v13 : Int32) (v14 : Int32) (v15 : Int32) (v16 : Int32) (v17 : Int32) (v18 : Int32) (x19 : Int32) (M20 : im_M) : Option ((Int32 × im_M) ⊕ (im_M)) := if (v17 + v15) ≤ x19 then some (.inr M20) else bd1 (if v17 ≤ x19 then some 0 else gd (inb (v18 + x19) 3800) <| some (im_i M20 119 (Int32.toNatClampNeg (v18 + x19)))) fun (y22 : Int32) => gd (inb x19 256) <| some (.inl ((x19 + 1), (im_setI M20 121 (Int32.toNatClampNeg x19) y22)))
noncomputable def f_MSquareRows_check_L114 (v42 : Int32) (v43 : Int32) (v44 : Int32) (v45 : Int32) (v46 : Int32) (v47 : Int32) (v48 : Int32) (v49 : Int32) (x50 : Int32) (M51 : im_M) : Option ((Int32 × im_M) ⊕ (im_M)) := if v44 < x50 then some (.inr M51) else if v49 = 0 then some (.inr M51) else gd (inb (v48 + x50) 256) <| gd (inb x50 32) <| bd1 (f_MSquareRows_times v49 (im_i M51 127 (Int32.toNatClampNeg x50)) M51) fun (x52 : Int32) => gd (inb (v48 + x50) 256) <| some (.inl ((x50 + 1), (im_setI M51 121 (Int32.toNatClampNeg (v48 + x50)) ((im_i M51 121 (Int32.toNatClampNeg (v48 + x50))) ^^^ x52))))
noncomputable def f_MSquareRows_check_L95 (v33 : Int32) (v34 : Int32) (v35 : Int32) (v36 : Int32) (v37 : Int32) (v38 : Int32) (x39 : Int32) (M40 : im_M) : Option ((Int32 × im_M) ⊕ (im_M)) := if v37 ≤ x39 then some (.inr M40) else gd (inb x39 256) <| bd1 (lp (uc2 (f_MSquareRows_check_L114 v33 v34 v35 v36 v37 v38 x39 (im_i M40 121 (Int32.toNatClampNeg x39)))) (0, M40)) fun (M53 : im_M) => some (.inl ((x39 + 1), M53))
noncomputable def f_MSquareRows_check_L173 (v56 : Int32) (v57 : Int32) (v58 : Int32) (v59 : Int32) (v60 : Int32) (v61 : Int32) (x62 : Int32) (M63 : im_M) : Option ((Int32 × im_M) ⊕ (im_M)) := if (v60 + v58) ≤ x62 then some (.inr M63) else bd1 (f_MSquareRows_placeOf v56 v57 v59 x62 M63) fun (x64 : Int32) => bd1 (if v60 ≤ x62 then gd (inb x62 256) <| some (im_i M63 121 (Int32.toNatClampNeg x62)) else gd (inb (v61 + x62) 3800) <| some (im_i M63 119 (Int32.toNatClampNeg (v61 + x62)))) fun (y66 : Int32) => gd (inb x64 3800) <| some (.inl ((x62 + 1), (im_setI M63 120 (Int32.toNatClampNeg x64) y66)))
noncomputable def f_MSquareRows_check_L15 (v4 : Int32) (v5 : Int32) (v6 : Int32) (x7 : Int32) (M8 : im_M) : Option ((Int32 × im_M) ⊕ (im_M)) := bd1 (f_MSquareRows_blocksOf v4 v5 M8) fun (x9 : Int32) => if x9 ≤ x7 then some (.inr M8) else bd1 (f_MSquareRows_shareOf v4 v5 x7 M8) fun (x10 : Int32) => bd1 (f_MSquareRows_startOf v4 v5 x7 M8) fun (x11 : Int32) => bd1 (lp (uc2 (f_MSquareRows_check_L49 v4 v5 v6 x7 x10 x11)) (0, M8)) fun (M31 : im_M) => bd1 (lp (uc2 (f_MSquareRows_check_L95 v4 v5 v6 x7 x10 x11)) (0, M31)) fun (M54 : im_M) => bd1 (lp (uc2 (f_MSquareRows_check_L173 v4 v5 v6 x7 x10 x11)) (0, M54)) fun (M75 : im_M) => some (.inl ((x7 + 1), M75))
noncomputable def f_MSquareRows_check (p0 : Int32) (p1 : Int32) (M : im_M) : Option (im_M) := bd1 (f_MSquareRows_checkOf p0 p1 M) fun (x1 : Int32) => bd1 (f_MSquareRows_generate x1 M) fun (M2 : im_M) => bd1 (lp (uc2 (f_MSquareRows_check_L15 p0 p1 x1)) (0, M2)) fun (M76 : im_M) => some M76
theorem J_MSquareRows_check_d0 : decode J_MSquareRows_check.2.1 0 = .ok (.aload_n 0, 1) := by decide +kernel
theorem J_MSquareRows_check_d1 : decode J_MSquareRows_check.2.1 1 = .ok (.iload_n 1, 1) := by decide +kernel
theorem J_MSquareRows_check_d2 : decode J_MSquareRows_check.2.1 2 = .ok (.iload_n 2, 1) := by decide +kernel
theorem J_MSquareRows_check_d3 : decode J_MSquareRows_check.2.1 3 = .ok (.invokevirtual 86, 3) := by decide +kernel
theorem J_MSquareRows_check_d6 : decode J_MSquareRows_check.2.1 6 = .ok (.istore_n 3, 1) := by decide +kernel
theorem J_MSquareRows_check_d7 : decode J_MSquareRows_check.2.1 7 = .ok (.aload_n 0, 1) := by decide +kernel
theorem J_MSquareRows_check_d8 : decode J_MSquareRows_check.2.1 8 = .ok (.iload_n 3, 1) := by decide +kernel
theorem J_MSquareRows_check_d9 : decode J_MSquareRows_check.2.1 9 = .ok (.invokevirtual 153, 3) := by decide +kernel
theorem J_MSquareRows_check_d12 : decode J_MSquareRows_check.2.1 12 = .ok (.iconst 0, 1) := by decide +kernel
theorem J_MSquareRows_check_d13 : decode J_MSquareRows_check.2.1 13 = .ok (.istore 4, 2) := by decide +kernel
theorem J_MSquareRows_check_d15 : decode J_MSquareRows_check.2.1 15 = .ok (.iload 4, 2) := by decide +kernel
theorem J_MSquareRows_check_d17 : decode J_MSquareRows_check.2.1 17 = .ok (.aload_n 0, 1) := by decide +kernel
theorem J_MSquareRows_check_d18 : decode J_MSquareRows_check.2.1 18 = .ok (.iload_n 1, 1) := by decide +kernel
theorem J_MSquareRows_check_d19 : decode J_MSquareRows_check.2.1 19 = .ok (.iload_n 2, 1) := by decide +kernel
theorem J_MSquareRows_check_d20 : decode J_MSquareRows_check.2.1 20 = .ok (.invokevirtual 90, 3) := by decide +kernel
theorem J_MSquareRows_check_d23 : decode J_MSquareRows_check.2.1 23 = .ok (.if_icmp .ge 213, 3) := by decide +kernel
theorem J_MSquareRows_check_d26 : decode J_MSquareRows_check.2.1 26 = .ok (.aload_n 0, 1) := by decide +kernel
theorem J_MSquareRows_check_d27 : decode J_MSquareRows_check.2.1 27 = .ok (.iload_n 1, 1) := by decide +kernel
theorem J_MSquareRows_check_d28 : decode J_MSquareRows_check.2.1 28 = .ok (.iload_n 2, 1) := by decide +kernel
theorem J_MSquareRows_check_d29 : decode J_MSquareRows_check.2.1 29 = .ok (.iload 4, 2) := by decide +kernel
theorem J_MSquareRows_check_d31 : decode J_MSquareRows_check.2.1 31 = .ok (.invokevirtual 150, 3) := by decide +kernel
theorem J_MSquareRows_check_d34 : decode J_MSquareRows_check.2.1 34 = .ok (.istore 5, 2) := by decide +kernel
theorem J_MSquareRows_check_d36 : decode J_MSquareRows_check.2.1 36 = .ok (.aload_n 0, 1) := by decide +kernel
theorem J_MSquareRows_check_d37 : decode J_MSquareRows_check.2.1 37 = .ok (.iload_n 1, 1) := by decide +kernel
theorem J_MSquareRows_check_d38 : decode J_MSquareRows_check.2.1 38 = .ok (.iload_n 2, 1) := by decide +kernel
theorem J_MSquareRows_check_d39 : decode J_MSquareRows_check.2.1 39 = .ok (.iload 4, 2) := by decide +kernel
theorem J_MSquareRows_check_d41 : decode J_MSquareRows_check.2.1 41 = .ok (.invokevirtual 157, 3) := by decide +kernel
theorem J_MSquareRows_check_d44 : decode J_MSquareRows_check.2.1 44 = .ok (.istore 6, 2) := by decide +kernel
theorem J_MSquareRows_check_d46 : decode J_MSquareRows_check.2.1 46 = .ok (.iconst 0, 1) := by decide +kernel
theorem J_MSquareRows_check_d47 : decode J_MSquareRows_check.2.1 47 = .ok (.istore 7, 2) := by decide +kernel
theorem J_MSquareRows_check_d49 : decode J_MSquareRows_check.2.1 49 = .ok (.iload 7, 2) := by decide +kernel
theorem J_MSquareRows_check_d51 : decode J_MSquareRows_check.2.1 51 = .ok (.iload 5, 2) := by decide +kernel
theorem J_MSquareRows_check_d53 : decode J_MSquareRows_check.2.1 53 = .ok (.iload_n 3, 1) := by decide +kernel
theorem J_MSquareRows_check_d54 : decode J_MSquareRows_check.2.1 54 = .ok (.iadd, 1) := by decide +kernel
theorem J_MSquareRows_check_d55 : decode J_MSquareRows_check.2.1 55 = .ok (.if_icmp .ge 37, 3) := by decide +kernel
theorem J_MSquareRows_check_d58 : decode J_MSquareRows_check.2.1 58 = .ok (.aload_n 0, 1) := by decide +kernel
theorem J_MSquareRows_check_d59 : decode J_MSquareRows_check.2.1 59 = .ok (.getfield 46, 3) := by decide +kernel
theorem J_MSquareRows_check_d62 : decode J_MSquareRows_check.2.1 62 = .ok (.iload 7, 2) := by decide +kernel
theorem J_MSquareRows_check_d64 : decode J_MSquareRows_check.2.1 64 = .ok (.iload 7, 2) := by decide +kernel
theorem J_MSquareRows_check_d66 : decode J_MSquareRows_check.2.1 66 = .ok (.iload 5, 2) := by decide +kernel
theorem J_MSquareRows_check_d68 : decode J_MSquareRows_check.2.1 68 = .ok (.if_icmp .ge 16, 3) := by decide +kernel
theorem J_MSquareRows_check_d71 : decode J_MSquareRows_check.2.1 71 = .ok (.aload_n 0, 1) := by decide +kernel
theorem J_MSquareRows_check_d72 : decode J_MSquareRows_check.2.1 72 = .ok (.getfield 40, 3) := by decide +kernel
theorem J_MSquareRows_check_d75 : decode J_MSquareRows_check.2.1 75 = .ok (.iload 6, 2) := by decide +kernel
theorem J_MSquareRows_check_d77 : decode J_MSquareRows_check.2.1 77 = .ok (.iload 7, 2) := by decide +kernel
theorem J_MSquareRows_check_d79 : decode J_MSquareRows_check.2.1 79 = .ok (.iadd, 1) := by decide +kernel
theorem J_MSquareRows_check_d80 : decode J_MSquareRows_check.2.1 80 = .ok (.iaload, 1) := by decide +kernel
theorem J_MSquareRows_check_d81 : decode J_MSquareRows_check.2.1 81 = .ok (.goto 4, 3) := by decide +kernel
theorem J_MSquareRows_check_d84 : decode J_MSquareRows_check.2.1 84 = .ok (.iconst 0, 1) := by decide +kernel
theorem J_MSquareRows_check_d85 : decode J_MSquareRows_check.2.1 85 = .ok (.iastore, 1) := by decide +kernel
theorem J_MSquareRows_check_d86 : decode J_MSquareRows_check.2.1 86 = .ok (.iinc 7 1, 3) := by decide +kernel
theorem J_MSquareRows_check_d89 : decode J_MSquareRows_check.2.1 89 = .ok (.goto (-40), 3) := by decide +kernel
theorem J_MSquareRows_check_d92 : decode J_MSquareRows_check.2.1 92 = .ok (.iconst 0, 1) := by decide +kernel
theorem J_MSquareRows_check_d93 : decode J_MSquareRows_check.2.1 93 = .ok (.istore 7, 2) := by decide +kernel
theorem J_MSquareRows_check_d95 : decode J_MSquareRows_check.2.1 95 = .ok (.iload 7, 2) := by decide +kernel
theorem J_MSquareRows_check_d97 : decode J_MSquareRows_check.2.1 97 = .ok (.iload 5, 2) := by decide +kernel
theorem J_MSquareRows_check_d99 : decode J_MSquareRows_check.2.1 99 = .ok (.if_icmp .ge 71, 3) := by decide +kernel
theorem J_MSquareRows_check_d102 : decode J_MSquareRows_check.2.1 102 = .ok (.aload_n 0, 1) := by decide +kernel
theorem J_MSquareRows_check_d103 : decode J_MSquareRows_check.2.1 103 = .ok (.getfield 46, 3) := by decide +kernel
theorem J_MSquareRows_check_d106 : decode J_MSquareRows_check.2.1 106 = .ok (.iload 7, 2) := by decide +kernel
theorem J_MSquareRows_check_d108 : decode J_MSquareRows_check.2.1 108 = .ok (.iaload, 1) := by decide +kernel
theorem J_MSquareRows_check_d109 : decode J_MSquareRows_check.2.1 109 = .ok (.istore 8, 2) := by decide +kernel
theorem J_MSquareRows_check_d111 : decode J_MSquareRows_check.2.1 111 = .ok (.iconst 0, 1) := by decide +kernel
theorem J_MSquareRows_check_d112 : decode J_MSquareRows_check.2.1 112 = .ok (.istore 9, 2) := by decide +kernel
theorem J_MSquareRows_check_d114 : decode J_MSquareRows_check.2.1 114 = .ok (.iload 9, 2) := by decide +kernel
theorem J_MSquareRows_check_d116 : decode J_MSquareRows_check.2.1 116 = .ok (.iload_n 3, 1) := by decide +kernel
theorem J_MSquareRows_check_d117 : decode J_MSquareRows_check.2.1 117 = .ok (.if_icmp .gt 47, 3) := by decide +kernel
theorem J_MSquareRows_check_d120 : decode J_MSquareRows_check.2.1 120 = .ok (.iload 8, 2) := by decide +kernel
theorem J_MSquareRows_check_d122 : decode J_MSquareRows_check.2.1 122 = .ok (.ifCond .eq 42, 3) := by decide +kernel
theorem J_MSquareRows_check_d125 : decode J_MSquareRows_check.2.1 125 = .ok (.aload_n 0, 1) := by decide +kernel
theorem J_MSquareRows_check_d126 : decode J_MSquareRows_check.2.1 126 = .ok (.getfield 46, 3) := by decide +kernel
theorem J_MSquareRows_check_d129 : decode J_MSquareRows_check.2.1 129 = .ok (.iload 7, 2) := by decide +kernel
theorem J_MSquareRows_check_d131 : decode J_MSquareRows_check.2.1 131 = .ok (.iload 9, 2) := by decide +kernel
theorem J_MSquareRows_check_d133 : decode J_MSquareRows_check.2.1 133 = .ok (.iadd, 1) := by decide +kernel
theorem J_MSquareRows_check_d134 : decode J_MSquareRows_check.2.1 134 = .ok (.aload_n 0, 1) := by decide +kernel
theorem J_MSquareRows_check_d135 : decode J_MSquareRows_check.2.1 135 = .ok (.getfield 46, 3) := by decide +kernel
theorem J_MSquareRows_check_d138 : decode J_MSquareRows_check.2.1 138 = .ok (.iload 7, 2) := by decide +kernel
theorem J_MSquareRows_check_d140 : decode J_MSquareRows_check.2.1 140 = .ok (.iload 9, 2) := by decide +kernel
theorem J_MSquareRows_check_d142 : decode J_MSquareRows_check.2.1 142 = .ok (.iadd, 1) := by decide +kernel
theorem J_MSquareRows_check_d143 : decode J_MSquareRows_check.2.1 143 = .ok (.iaload, 1) := by decide +kernel
theorem J_MSquareRows_check_d144 : decode J_MSquareRows_check.2.1 144 = .ok (.iload 8, 2) := by decide +kernel
theorem J_MSquareRows_check_d146 : decode J_MSquareRows_check.2.1 146 = .ok (.aload_n 0, 1) := by decide +kernel
theorem J_MSquareRows_check_d147 : decode J_MSquareRows_check.2.1 147 = .ok (.getfield 64, 3) := by decide +kernel
theorem J_MSquareRows_check_d150 : decode J_MSquareRows_check.2.1 150 = .ok (.iload 9, 2) := by decide +kernel
theorem J_MSquareRows_check_d152 : decode J_MSquareRows_check.2.1 152 = .ok (.iaload, 1) := by decide +kernel
theorem J_MSquareRows_check_d153 : decode J_MSquareRows_check.2.1 153 = .ok (.invokestatic 147, 3) := by decide +kernel
theorem J_MSquareRows_check_d156 : decode J_MSquareRows_check.2.1 156 = .ok (.ixor, 1) := by decide +kernel
theorem J_MSquareRows_check_d157 : decode J_MSquareRows_check.2.1 157 = .ok (.iastore, 1) := by decide +kernel
theorem J_MSquareRows_check_d158 : decode J_MSquareRows_check.2.1 158 = .ok (.iinc 9 1, 3) := by decide +kernel
theorem J_MSquareRows_check_d161 : decode J_MSquareRows_check.2.1 161 = .ok (.goto (-47), 3) := by decide +kernel
theorem J_MSquareRows_check_d164 : decode J_MSquareRows_check.2.1 164 = .ok (.iinc 7 1, 3) := by decide +kernel
theorem J_MSquareRows_check_d167 : decode J_MSquareRows_check.2.1 167 = .ok (.goto (-72), 3) := by decide +kernel
theorem J_MSquareRows_check_d170 : decode J_MSquareRows_check.2.1 170 = .ok (.iconst 0, 1) := by decide +kernel
theorem J_MSquareRows_check_d171 : decode J_MSquareRows_check.2.1 171 = .ok (.istore 7, 2) := by decide +kernel
theorem J_MSquareRows_check_d173 : decode J_MSquareRows_check.2.1 173 = .ok (.iload 7, 2) := by decide +kernel
theorem J_MSquareRows_check_d175 : decode J_MSquareRows_check.2.1 175 = .ok (.iload 5, 2) := by decide +kernel
theorem J_MSquareRows_check_d177 : decode J_MSquareRows_check.2.1 177 = .ok (.iload_n 3, 1) := by decide +kernel
theorem J_MSquareRows_check_d178 : decode J_MSquareRows_check.2.1 178 = .ok (.iadd, 1) := by decide +kernel
theorem J_MSquareRows_check_d179 : decode J_MSquareRows_check.2.1 179 = .ok (.if_icmp .ge 51, 3) := by decide +kernel
theorem J_MSquareRows_check_d182 : decode J_MSquareRows_check.2.1 182 = .ok (.aload_n 0, 1) := by decide +kernel
theorem J_MSquareRows_check_d183 : decode J_MSquareRows_check.2.1 183 = .ok (.getfield 43, 3) := by decide +kernel
theorem J_MSquareRows_check_d186 : decode J_MSquareRows_check.2.1 186 = .ok (.aload_n 0, 1) := by decide +kernel
theorem J_MSquareRows_check_d187 : decode J_MSquareRows_check.2.1 187 = .ok (.iload_n 1, 1) := by decide +kernel
theorem J_MSquareRows_check_d188 : decode J_MSquareRows_check.2.1 188 = .ok (.iload_n 2, 1) := by decide +kernel
theorem J_MSquareRows_check_d189 : decode J_MSquareRows_check.2.1 189 = .ok (.iload 4, 2) := by decide +kernel
theorem J_MSquareRows_check_d191 : decode J_MSquareRows_check.2.1 191 = .ok (.iload 7, 2) := by decide +kernel
theorem J_MSquareRows_check_d193 : decode J_MSquareRows_check.2.1 193 = .ok (.invokevirtual 160, 3) := by decide +kernel
theorem J_MSquareRows_check_d196 : decode J_MSquareRows_check.2.1 196 = .ok (.iload 7, 2) := by decide +kernel
theorem J_MSquareRows_check_d198 : decode J_MSquareRows_check.2.1 198 = .ok (.iload 5, 2) := by decide +kernel
theorem J_MSquareRows_check_d200 : decode J_MSquareRows_check.2.1 200 = .ok (.if_icmp .ge 16, 3) := by decide +kernel
theorem J_MSquareRows_check_d203 : decode J_MSquareRows_check.2.1 203 = .ok (.aload_n 0, 1) := by decide +kernel
theorem J_MSquareRows_check_d204 : decode J_MSquareRows_check.2.1 204 = .ok (.getfield 40, 3) := by decide +kernel
theorem J_MSquareRows_check_d207 : decode J_MSquareRows_check.2.1 207 = .ok (.iload 6, 2) := by decide +kernel
theorem J_MSquareRows_check_d209 : decode J_MSquareRows_check.2.1 209 = .ok (.iload 7, 2) := by decide +kernel
theorem J_MSquareRows_check_d211 : decode J_MSquareRows_check.2.1 211 = .ok (.iadd, 1) := by decide +kernel
theorem J_MSquareRows_check_d212 : decode J_MSquareRows_check.2.1 212 = .ok (.iaload, 1) := by decide +kernel
theorem J_MSquareRows_check_d213 : decode J_MSquareRows_check.2.1 213 = .ok (.goto 10, 3) := by decide +kernel
theorem J_MSquareRows_check_d216 : decode J_MSquareRows_check.2.1 216 = .ok (.aload_n 0, 1) := by decide +kernel
theorem J_MSquareRows_check_d217 : decode J_MSquareRows_check.2.1 217 = .ok (.getfield 46, 3) := by decide +kernel
theorem J_MSquareRows_check_d220 : decode J_MSquareRows_check.2.1 220 = .ok (.iload 7, 2) := by decide +kernel
theorem J_MSquareRows_check_d222 : decode J_MSquareRows_check.2.1 222 = .ok (.iaload, 1) := by decide +kernel
theorem J_MSquareRows_check_d223 : decode J_MSquareRows_check.2.1 223 = .ok (.iastore, 1) := by decide +kernel
theorem J_MSquareRows_check_d224 : decode J_MSquareRows_check.2.1 224 = .ok (.iinc 7 1, 3) := by decide +kernel
theorem J_MSquareRows_check_d227 : decode J_MSquareRows_check.2.1 227 = .ok (.goto (-54), 3) := by decide +kernel
theorem J_MSquareRows_check_d230 : decode J_MSquareRows_check.2.1 230 = .ok (.iinc 4 1, 3) := by decide +kernel
theorem J_MSquareRows_check_d233 : decode J_MSquareRows_check.2.1 233 = .ok (.goto (-218), 3) := by decide +kernel
theorem J_MSquareRows_check_d236 : decode J_MSquareRows_check.2.1 236 = .ok (.return_, 1) := by decide +kernel
theorem f_MSquareRows_check_ok {L : Nat} {xs : Nat → Int32} {dep : Nat} {w : Bool} {p0 : Int32} {p1 : Int32} {M : im_M} {Q : im_M → Prop} (hM : lw_S w M) (h : ed (f_MSquareRows_check p0 p1 M) Q) : ia (tb_G L xs) (dep + 4) J_MSquareRows_check (rwV w Q) (0, lv_args 0 [.ref 108, .int p0, .int p1], [], M) := by
  have hS : im_St (tb_G L xs) (dep + 4) J_MSquareRows_check (ia (tb_G L xs) (dep + 4) J_MSquareRows_check (rwV w Q)) := ia_St
  unfold f_MSquareRows_check at h
  have l0 : im_lk (lv_args 0 [.ref 108, .int p0, .int p1]) 0 = some (.ref 108) := rfl
  have l1 : im_lk (lv_args 0 [.ref 108, .int p0, .int p1]) 1 = some (.int p0) := rfl
  have l2 : im_lk (lv_args 0 [.ref 108, .int p0, .int p1]) 2 = some (.int p1) := rfl
  refine iq_aload_n hS 1 J_MSquareRows_check_d0 l0 rfl ?_
  refine iq_iload_n hS 2 J_MSquareRows_check_d1 l1 rfl ?_
  refine iq_iload_n hS 3 J_MSquareRows_check_d2 l2 rfl ?_
  obtain ⟨Q1, hQ1, h⟩ := bd1_ed h
  refine iq_cpI hS 6 J_MSquareRows_check_d3 rfl (pr_inst (vs := [_, _]) lc_16_86 lT_403 rfl rfl (by decide) (by decide) rfl (Nat.le_of_ble_eq_true rfl) (Nat.le_of_ble_eq_true rfl) (fun _ => Or.inl (pr_b (ka_108 hM) (by decide) rfl))) (f_MSquareRows_checkOf_ok (dep := dep + 3) hM h) rfl ?_
  intro x1 h
  replace h := hQ1 _ h
  refine iq_istore_n hS 7 J_MSquareRows_check_d6 (by decide) rfl ?_
  refine iq_aload_n hS 8 J_MSquareRows_check_d7 (lk_1r l0 (by decide)) rfl ?_
  refine iq_iload_n hS 9 J_MSquareRows_check_d8 lk_1s rfl ?_
  obtain ⟨Q2, hQ2, h⟩ := bd1_ed h
  refine iq_cwV hS 12 J_MSquareRows_check_d9 rfl (pr_inst (vs := [_]) lc_16_153 lT_409 rfl rfl (by decide) (by decide) rfl (Nat.le_of_ble_eq_true rfl) (Nat.le_of_ble_eq_true rfl) (fun _ => Or.inl (pr_b (ka_108 hM) (by decide) rfl))) (f_MSquareRows_generate_ok (dep := dep + 2) hM h) rfl ?_
  intro M2 hM2 h
  replace h := hQ2 _ h
  refine iq_iconst hS 13 J_MSquareRows_check_d12 (v := 0) (by decide +kernel) rfl ?_
  refine iq_istore hS 15 J_MSquareRows_check_d13 (by decide) rfl ?_
  obtain ⟨Q3, hQ3, h⟩ := bd1_ed h
  have K3 : ∀ (M4 : im_M) (L' : List (Nat × Value)), lw_S w M4 → Q3 M4 → ia (tb_G L xs) (dep + 4) J_MSquareRows_check (rwV w Q) (236, L', [], M4) := by
    intro M4 L' hM4  h
    replace h := hQ3 _ h
    exact iq_ret J_MSquareRows_check_d236 rfl ⟨rfl, hM4, ed_some h⟩
  obtain ⟨r3, hr3, hq3⟩ := h
  obtain ⟨n3, hn3⟩ := lp_n hr3
  have I3 : ∀ (n : Nat) (x5 : Int32) (M6 : im_M) (L' : List (Nat × Value)), lw_S w M6 → im_lk L' 0 = some (.ref 108) → im_lk L' 1 = some (.int p0) → im_lk L' 2 = some (.int p1) → im_lk L' 3 = some (.int x1) → im_lk L' 4 = some (.int x5) → lpn (uc2 (f_MSquareRows_check_L15 p0 p1 x1)) n (x5, M6) = some r3 → ia (tb_G L xs) (dep + 4) J_MSquareRows_check (rwV w Q) (15, L', [], M6) := by
    intro n
    induction n with
    | zero => intro x5 M6 L' hM6 l7 l8 l9 l10 l11 hn; exact (lpn_0 hn).elim
    | succ n ih =>
      intro x5 M6 L' hM6 l7 l8 l9 l10 l11 hn
      have h := lpn_ed2 hn
      unfold f_MSquareRows_check_L15 at h
      refine iq_iload hS 17 J_MSquareRows_check_d15 l11 rfl ?_
      refine iq_aload_n hS 18 J_MSquareRows_check_d17 l7 rfl ?_
      refine iq_iload_n hS 19 J_MSquareRows_check_d18 l8 rfl ?_
      refine iq_iload_n hS 20 J_MSquareRows_check_d19 l9 rfl ?_
      obtain ⟨Q12, hQ12, h⟩ := bd1_ed h
      refine iq_cpI hS 23 J_MSquareRows_check_d20 rfl (pr_inst (vs := [_, _]) lc_16_90 lT_404 rfl rfl (by decide) (by decide) rfl (Nat.le_of_ble_eq_true rfl) (Nat.le_of_ble_eq_true rfl) (fun _ => Or.inl (pr_b (ka_108 hM6) (by decide) rfl))) (f_MSquareRows_blocksOf_ok (dep := dep + 3) hM6 h) rfl ?_
      intro x12 h
      replace h := hQ12 _ h
      refine iq_icmp_ge hS 26 J_MSquareRows_check_d23 (t := 236) rfl (fun q23 => ?_) rfl (fun q23 => ?_)
      · replace h := ed_pos q23 h
        exact K3 _ _ hM6  (lq_r h hq3)
      · replace h := ed_neg q23 h
        refine iq_aload_n hS 27 J_MSquareRows_check_d26 l7 rfl ?_
        refine iq_iload_n hS 28 J_MSquareRows_check_d27 l8 rfl ?_
        refine iq_iload_n hS 29 J_MSquareRows_check_d28 l9 rfl ?_
        refine iq_iload hS 31 J_MSquareRows_check_d29 l11 rfl ?_
        obtain ⟨Q13, hQ13, h⟩ := bd1_ed h
        refine iq_cpI hS 34 J_MSquareRows_check_d31 rfl (pr_inst (vs := [_, _, _]) lc_16_150 lT_412 rfl rfl (by decide) (by decide) rfl (Nat.le_of_ble_eq_true rfl) (Nat.le_of_ble_eq_true rfl) (fun _ => Or.inl (pr_b (ka_108 hM6) (by decide) rfl))) (f_MSquareRows_shareOf_ok (dep := dep + 1) hM6 h) rfl ?_
        intro x13 h
        replace h := hQ13 _ h
        refine iq_istore hS 36 J_MSquareRows_check_d34 (by decide) rfl ?_
        refine iq_aload_n hS 37 J_MSquareRows_check_d36 (lk_1r l7 (by decide)) rfl ?_
        refine iq_iload_n hS 38 J_MSquareRows_check_d37 (lk_1i l8 (by decide)) rfl ?_
        refine iq_iload_n hS 39 J_MSquareRows_check_d38 (lk_1i l9 (by decide)) rfl ?_
        refine iq_iload hS 41 J_MSquareRows_check_d39 (lk_1i l11 (by decide)) rfl ?_
        obtain ⟨Q14, hQ14, h⟩ := bd1_ed h
        refine iq_cpI hS 44 J_MSquareRows_check_d41 rfl (pr_inst (vs := [_, _, _]) lc_16_157 lT_413 rfl rfl (by decide) (by decide) rfl (Nat.le_of_ble_eq_true rfl) (Nat.le_of_ble_eq_true rfl) (fun _ => Or.inl (pr_b (ka_108 hM6) (by decide) rfl))) (f_MSquareRows_startOf_ok (dep := dep + 0) hM6 h) rfl ?_
        intro x14 h
        replace h := hQ14 _ h
        refine iq_istore hS 46 J_MSquareRows_check_d44 (by decide) rfl ?_
        refine iq_iconst hS 47 J_MSquareRows_check_d46 (v := 0) (by decide +kernel) rfl ?_
        refine iq_istore hS 49 J_MSquareRows_check_d47 (by decide) rfl ?_
        obtain ⟨Q15, hQ15, h⟩ := bd1_ed h
        have K15 : ∀ (M16 : im_M) (L' : List (Nat × Value)), lw_S w M16 → im_lk L' 0 = some (.ref 108) → im_lk L' 1 = some (.int p0) → im_lk L' 2 = some (.int p1) → im_lk L' 3 = some (.int x1) → im_lk L' 4 = some (.int x5) → im_lk L' 5 = some (.int x13) → im_lk L' 6 = some (.int x14) → Q15 M16 → ia (tb_G L xs) (dep + 4) J_MSquareRows_check (rwV w Q) (92, L', [], M16) := by
          intro M16 L' hM16 l17 l18 l19 l20 l21 l22 l23 h
          replace h := hQ15 _ h
          refine iq_iconst hS 93 J_MSquareRows_check_d92 (v := 0) (by decide +kernel) rfl ?_
          refine iq_istore hS 95 J_MSquareRows_check_d93 (by decide) rfl ?_
          obtain ⟨Q24, hQ24, h⟩ := bd1_ed h
          have K24 : ∀ (M25 : im_M) (L' : List (Nat × Value)), lw_S w M25 → im_lk L' 0 = some (.ref 108) → im_lk L' 1 = some (.int p0) → im_lk L' 2 = some (.int p1) → im_lk L' 3 = some (.int x1) → im_lk L' 4 = some (.int x5) → im_lk L' 5 = some (.int x13) → im_lk L' 6 = some (.int x14) → Q24 M25 → ia (tb_G L xs) (dep + 4) J_MSquareRows_check (rwV w Q) (170, L', [], M25) := by
            intro M25 L' hM25 l26 l27 l28 l29 l30 l31 l32 h
            replace h := hQ24 _ h
            refine iq_iconst hS 171 J_MSquareRows_check_d170 (v := 0) (by decide +kernel) rfl ?_
            refine iq_istore hS 173 J_MSquareRows_check_d171 (by decide) rfl ?_
            obtain ⟨Q33, hQ33, h⟩ := bd1_ed h
            have K33 : ∀ (M34 : im_M) (L' : List (Nat × Value)), lw_S w M34 → im_lk L' 0 = some (.ref 108) → im_lk L' 1 = some (.int p0) → im_lk L' 2 = some (.int p1) → im_lk L' 3 = some (.int x1) → im_lk L' 4 = some (.int x5) → Q33 M34 → ia (tb_G L xs) (dep + 4) J_MSquareRows_check (rwV w Q) (230, L', [], M34) := by
              intro M34 L' hM34 l35 l36 l37 l38 l39 h
              replace h := hQ33 _ h
              refine iq_iincv hS 233 J_MSquareRows_check_d230 (c := 1) (by decide +kernel) l39 (by decide) rfl ?_
              refine iq_goto hS J_MSquareRows_check_d233 (t := 15) rfl ?_
              exact ih _ _ _ hM34 (lk_1r l35 (by decide)) (lk_1i l36 (by decide)) (lk_1i l37 (by decide)) (lk_1i l38 (by decide)) lk_1s (lq_l h)
            obtain ⟨r33, hr33, hq33⟩ := h
            obtain ⟨n33, hn33⟩ := lp_n hr33
            have I33 : ∀ (n : Nat) (x40 : Int32) (M41 : im_M) (L' : List (Nat × Value)), lw_S w M41 → im_lk L' 0 = some (.ref 108) → im_lk L' 1 = some (.int p0) → im_lk L' 2 = some (.int p1) → im_lk L' 3 = some (.int x1) → im_lk L' 4 = some (.int x5) → im_lk L' 5 = some (.int x13) → im_lk L' 6 = some (.int x14) → im_lk L' 7 = some (.int x40) → lpn (uc2 (f_MSquareRows_check_L173 p0 p1 x1 x5 x13 x14)) n (x40, M41) = some r33 → ia (tb_G L xs) (dep + 4) J_MSquareRows_check (rwV w Q) (173, L', [], M41) := by
              intro n
              induction n with
              | zero => intro x40 M41 L' hM41 l42 l43 l44 l45 l46 l47 l48 l49 hn; exact (lpn_0 hn).elim
              | succ n ih =>
                intro x40 M41 L' hM41 l42 l43 l44 l45 l46 l47 l48 l49 hn
                have h := lpn_ed2 hn
                unfold f_MSquareRows_check_L173 at h
                refine iq_iload hS 175 J_MSquareRows_check_d173 l49 rfl ?_
                refine iq_iload hS 177 J_MSquareRows_check_d175 l47 rfl ?_
                refine iq_iload_n hS 178 J_MSquareRows_check_d177 l45 rfl ?_
                refine iq_iadd hS 179 J_MSquareRows_check_d178 rfl ?_
                refine iq_icmp_ge hS 182 J_MSquareRows_check_d179 (t := 230) rfl (fun q179 => ?_) rfl (fun q179 => ?_)
                · replace h := ed_pos q179 h
                  exact K33 _ _ hM41 l42 l43 l44 l45 l46 (lq_r h hq33)
                · replace h := ed_neg q179 h
                  refine iq_aload_n hS 183 J_MSquareRows_check_d182 l42 rfl ?_
                  refine iq_getR hS 186 J_MSquareRows_check_d183 lf_16_43 (Or.inr ⟨_, rfl⟩) (ka_108 hM41) (ra_108_18 hM41) rfl ?_
                  refine iq_aload_n hS 187 J_MSquareRows_check_d186 l42 rfl ?_
                  refine iq_iload_n hS 188 J_MSquareRows_check_d187 l43 rfl ?_
                  refine iq_iload_n hS 189 J_MSquareRows_check_d188 l44 rfl ?_
                  refine iq_iload hS 191 J_MSquareRows_check_d189 l46 rfl ?_
                  refine iq_iload hS 193 J_MSquareRows_check_d191 l49 rfl ?_
                  obtain ⟨Q50, hQ50, h⟩ := bd1_ed h
                  refine iq_cpI hS 196 J_MSquareRows_check_d193 rfl (pr_inst (vs := [_, _, _, _]) lc_16_160 lT_414 rfl rfl (by decide) (by decide) rfl (Nat.le_of_ble_eq_true rfl) (Nat.le_of_ble_eq_true rfl) (fun _ => Or.inl (pr_b (ka_108 hM41) (by decide) rfl))) (f_MSquareRows_placeOf_ok (dep := dep + 0) hM41 h) rfl ?_
                  intro x50 h
                  replace h := hQ50 _ h
                  refine iq_iload hS 198 J_MSquareRows_check_d196 l49 rfl ?_
                  refine iq_iload hS 200 J_MSquareRows_check_d198 l47 rfl ?_
                  obtain ⟨Q51, hQ51, h⟩ := bd1_ed h
                  have J51 : ∀ (y52 : Int32) (L' : List (Nat × Value)), im_lk L' 0 = some (.ref 108) → im_lk L' 1 = some (.int p0) → im_lk L' 2 = some (.int p1) → im_lk L' 3 = some (.int x1) → im_lk L' 4 = some (.int x5) → im_lk L' 5 = some (.int x13) → im_lk L' 6 = some (.int x14) → im_lk L' 7 = some (.int x40) → Q51 y52 → ia (tb_G L xs) (dep + 4) J_MSquareRows_check (rwV w Q) (223, L', [.int y52, .int x50, .ref 120], M41) := by
                    intro y52 L' l53 l54 l55 l56 l57 l58 l59 l60 h
                    replace h := hQ51 _ h
                    obtain ⟨g223, h⟩ := ed_gd h
                    refine iq_iastore hS 224 J_MSquareRows_check_d223 ⟨(ka_120 hM41).1, (ka_120 hM41).2, g223.1, ix_lt (kl_120 hM41) g223.2⟩ rfl ?_
                    refine iq_iincv hS 227 J_MSquareRows_check_d224 (c := 1) (by decide +kernel) l60 (by decide) rfl ?_
                    refine iq_goto hS J_MSquareRows_check_d227 (t := 173) rfl ?_
                    exact ih _ _ _ (lw_sI hM41) (lk_1r l53 (by decide)) (lk_1i l54 (by decide)) (lk_1i l55 (by decide)) (lk_1i l56 (by decide)) (lk_1i l57 (by decide)) (lk_1i l58 (by decide)) (lk_1i l59 (by decide)) lk_1s (lq_l h)
                  refine iq_icmp_ge hS 203 J_MSquareRows_check_d200 (t := 216) rfl (fun q200 => ?_) rfl (fun q200 => ?_)
                  · replace h := ed_pos q200 h
                    refine iq_aload_n hS 217 J_MSquareRows_check_d216 l42 rfl ?_
                    refine iq_getR hS 220 J_MSquareRows_check_d217 lf_16_46 (Or.inr ⟨_, rfl⟩) (ka_108 hM41) (ra_108_20 hM41) rfl ?_
                    refine iq_iload hS 222 J_MSquareRows_check_d220 l49 rfl ?_
                    obtain ⟨g222, h⟩ := ed_gd h
                    refine iq_iaload hS 223 J_MSquareRows_check_d222 ⟨(ka_121 hM41).1, (ka_121 hM41).2, g222.1, ix_lt (kl_121 hM41) g222.2⟩ rfl ?_
                    exact J51 _ _ l42 l43 l44 l45 l46 l47 l48 l49 (ed_some h)
                  · replace h := ed_neg q200 h
                    refine iq_aload_n hS 204 J_MSquareRows_check_d203 l42 rfl ?_
                    refine iq_getR hS 207 J_MSquareRows_check_d204 lf_16_40 (Or.inr ⟨_, rfl⟩) (ka_108 hM41) (ra_108_17 hM41) rfl ?_
                    refine iq_iload hS 209 J_MSquareRows_check_d207 l48 rfl ?_
                    refine iq_iload hS 211 J_MSquareRows_check_d209 l49 rfl ?_
                    refine iq_iadd hS 212 J_MSquareRows_check_d211 rfl ?_
                    obtain ⟨g212, h⟩ := ed_gd h
                    refine iq_iaload hS 213 J_MSquareRows_check_d212 ⟨(ka_119 hM41).1, (ka_119 hM41).2, g212.1, ix_lt (kl_119 hM41) g212.2⟩ rfl ?_
                    refine iq_goto hS J_MSquareRows_check_d213 (t := 223) rfl ?_
                    exact J51 _ _ l42 l43 l44 l45 l46 l47 l48 l49 (ed_some h)
            exact I33 n33 _ _ _ hM25 (lk_1r l26 (by decide)) (lk_1i l27 (by decide)) (lk_1i l28 (by decide)) (lk_1i l29 (by decide)) (lk_1i l30 (by decide)) (lk_1i l31 (by decide)) (lk_1i l32 (by decide)) lk_1s hn33
          obtain ⟨r24, hr24, hq24⟩ := h
          obtain ⟨n24, hn24⟩ := lp_n hr24
          have I24 : ∀ (n : Nat) (x61 : Int32) (M62 : im_M) (L' : List (Nat × Value)), lw_S w M62 → im_lk L' 0 = some (.ref 108) → im_lk L' 1 = some (.int p0) → im_lk L' 2 = some (.int p1) → im_lk L' 3 = some (.int x1) → im_lk L' 4 = some (.int x5) → im_lk L' 5 = some (.int x13) → im_lk L' 6 = some (.int x14) → im_lk L' 7 = some (.int x61) → lpn (uc2 (f_MSquareRows_check_L95 p0 p1 x1 x5 x13 x14)) n (x61, M62) = some r24 → ia (tb_G L xs) (dep + 4) J_MSquareRows_check (rwV w Q) (95, L', [], M62) := by
            intro n
            induction n with
            | zero => intro x61 M62 L' hM62 l63 l64 l65 l66 l67 l68 l69 l70 hn; exact (lpn_0 hn).elim
            | succ n ih =>
              intro x61 M62 L' hM62 l63 l64 l65 l66 l67 l68 l69 l70 hn
              have h := lpn_ed2 hn
              unfold f_MSquareRows_check_L95 at h
              refine iq_iload hS 97 J_MSquareRows_check_d95 l70 rfl ?_
              refine iq_iload hS 99 J_MSquareRows_check_d97 l68 rfl ?_
              refine iq_icmp_ge hS 102 J_MSquareRows_check_d99 (t := 170) rfl (fun q99 => ?_) rfl (fun q99 => ?_)
              · replace h := ed_pos q99 h
                exact K24 _ _ hM62 l63 l64 l65 l66 l67 l68 l69 (lq_r h hq24)
              · replace h := ed_neg q99 h
                refine iq_aload_n hS 103 J_MSquareRows_check_d102 l63 rfl ?_
                refine iq_getR hS 106 J_MSquareRows_check_d103 lf_16_46 (Or.inr ⟨_, rfl⟩) (ka_108 hM62) (ra_108_20 hM62) rfl ?_
                refine iq_iload hS 108 J_MSquareRows_check_d106 l70 rfl ?_
                obtain ⟨g108, h⟩ := ed_gd h
                refine iq_iaload hS 109 J_MSquareRows_check_d108 ⟨(ka_121 hM62).1, (ka_121 hM62).2, g108.1, ix_lt (kl_121 hM62) g108.2⟩ rfl ?_
                refine iq_istore hS 111 J_MSquareRows_check_d109 (by decide) rfl ?_
                refine iq_iconst hS 112 J_MSquareRows_check_d111 (v := 0) (by decide +kernel) rfl ?_
                refine iq_istore hS 114 J_MSquareRows_check_d112 (by decide) rfl ?_
                obtain ⟨Q71, hQ71, h⟩ := bd1_ed h
                have K71 : ∀ (M72 : im_M) (L' : List (Nat × Value)), lw_S w M72 → im_lk L' 0 = some (.ref 108) → im_lk L' 1 = some (.int p0) → im_lk L' 2 = some (.int p1) → im_lk L' 3 = some (.int x1) → im_lk L' 4 = some (.int x5) → im_lk L' 5 = some (.int x13) → im_lk L' 6 = some (.int x14) → im_lk L' 7 = some (.int x61) → Q71 M72 → ia (tb_G L xs) (dep + 4) J_MSquareRows_check (rwV w Q) (164, L', [], M72) := by
                  intro M72 L' hM72 l73 l74 l75 l76 l77 l78 l79 l80 h
                  replace h := hQ71 _ h
                  refine iq_iincv hS 167 J_MSquareRows_check_d164 (c := 1) (by decide +kernel) l80 (by decide) rfl ?_
                  refine iq_goto hS J_MSquareRows_check_d167 (t := 95) rfl ?_
                  exact ih _ _ _ hM72 (lk_1r l73 (by decide)) (lk_1i l74 (by decide)) (lk_1i l75 (by decide)) (lk_1i l76 (by decide)) (lk_1i l77 (by decide)) (lk_1i l78 (by decide)) (lk_1i l79 (by decide)) lk_1s (lq_l h)
                obtain ⟨r71, hr71, hq71⟩ := h
                obtain ⟨n71, hn71⟩ := lp_n hr71
                have I71 : ∀ (n : Nat) (x81 : Int32) (M82 : im_M) (L' : List (Nat × Value)), lw_S w M82 → im_lk L' 0 = some (.ref 108) → im_lk L' 1 = some (.int p0) → im_lk L' 2 = some (.int p1) → im_lk L' 3 = some (.int x1) → im_lk L' 4 = some (.int x5) → im_lk L' 5 = some (.int x13) → im_lk L' 6 = some (.int x14) → im_lk L' 7 = some (.int x61) → im_lk L' 8 = some (.int (im_i M62 121 (Int32.toNatClampNeg x61))) → im_lk L' 9 = some (.int x81) → lpn (uc2 (f_MSquareRows_check_L114 p0 p1 x1 x5 x13 x14 x61 (im_i M62 121 (Int32.toNatClampNeg x61)))) n (x81, M82) = some r71 → ia (tb_G L xs) (dep + 4) J_MSquareRows_check (rwV w Q) (114, L', [], M82) := by
                  intro n
                  induction n with
                  | zero => intro x81 M82 L' hM82 l83 l84 l85 l86 l87 l88 l89 l90 l91 l92 hn; exact (lpn_0 hn).elim
                  | succ n ih =>
                    intro x81 M82 L' hM82 l83 l84 l85 l86 l87 l88 l89 l90 l91 l92 hn
                    have h := lpn_ed2 hn
                    unfold f_MSquareRows_check_L114 at h
                    refine iq_iload hS 116 J_MSquareRows_check_d114 l92 rfl ?_
                    refine iq_iload_n hS 117 J_MSquareRows_check_d116 l86 rfl ?_
                    refine iq_icmp_gt hS 120 J_MSquareRows_check_d117 (t := 164) rfl (fun q117 => ?_) rfl (fun q117 => ?_)
                    · replace h := ed_pos q117 h
                      exact K71 _ _ hM82 l83 l84 l85 l86 l87 l88 l89 l90 (lq_r h hq71)
                    · replace h := ed_neg q117 h
                      refine iq_iload hS 122 J_MSquareRows_check_d120 l91 rfl ?_
                      refine iq_if_eq hS 125 J_MSquareRows_check_d122 (t := 164) rfl (fun q122 => ?_) rfl (fun q122 => ?_)
                      · replace h := ed_pos q122 h
                        exact K71 _ _ hM82 l83 l84 l85 l86 l87 l88 l89 l90 (lq_r h hq71)
                      · replace h := ed_neg q122 h
                        refine iq_aload_n hS 126 J_MSquareRows_check_d125 l83 rfl ?_
                        refine iq_getR hS 129 J_MSquareRows_check_d126 lf_16_46 (Or.inr ⟨_, rfl⟩) (ka_108 hM82) (ra_108_20 hM82) rfl ?_
                        refine iq_iload hS 131 J_MSquareRows_check_d129 l90 rfl ?_
                        refine iq_iload hS 133 J_MSquareRows_check_d131 l92 rfl ?_
                        refine iq_iadd hS 134 J_MSquareRows_check_d133 rfl ?_
                        refine iq_aload_n hS 135 J_MSquareRows_check_d134 l83 rfl ?_
                        refine iq_getR hS 138 J_MSquareRows_check_d135 lf_16_46 (Or.inr ⟨_, rfl⟩) (ka_108 hM82) (ra_108_20 hM82) rfl ?_
                        refine iq_iload hS 140 J_MSquareRows_check_d138 l90 rfl ?_
                        refine iq_iload hS 142 J_MSquareRows_check_d140 l92 rfl ?_
                        refine iq_iadd hS 143 J_MSquareRows_check_d142 rfl ?_
                        obtain ⟨g143, h⟩ := ed_gd h
                        refine iq_iaload hS 144 J_MSquareRows_check_d143 ⟨(ka_121 hM82).1, (ka_121 hM82).2, g143.1, ix_lt (kl_121 hM82) g143.2⟩ rfl ?_
                        refine iq_iload hS 146 J_MSquareRows_check_d144 l91 rfl ?_
                        refine iq_aload_n hS 147 J_MSquareRows_check_d146 l83 rfl ?_
                        refine iq_getR hS 150 J_MSquareRows_check_d147 lf_16_64 (Or.inr ⟨_, rfl⟩) (ka_108 hM82) (ra_108_26 hM82) rfl ?_
                        refine iq_iload hS 152 J_MSquareRows_check_d150 l92 rfl ?_
                        obtain ⟨g152, h⟩ := ed_gd h
                        refine iq_iaload hS 153 J_MSquareRows_check_d152 ⟨(ka_127 hM82).1, (ka_127 hM82).2, g152.1, ix_lt (kl_127 hM82) g152.2⟩ rfl ?_
                        obtain ⟨Q93, hQ93, h⟩ := bd1_ed h
                        refine iq_cpI hS 156 J_MSquareRows_check_d153 rfl (pr_stat (vs := [_, _]) lc_16_147 lT_411 rfl rfl (by decide) rfl (Nat.le_of_ble_eq_true rfl) (Nat.le_of_ble_eq_true rfl)) (f_MSquareRows_times_ok (dep := dep + 3) hM82 h) rfl ?_
                        intro x93 h
                        replace h := hQ93 _ h
                        refine iq_ixor hS 157 J_MSquareRows_check_d156 rfl ?_
                        obtain ⟨g157, h⟩ := ed_gd h
                        refine iq_iastore hS 158 J_MSquareRows_check_d157 ⟨(ka_121 hM82).1, (ka_121 hM82).2, g157.1, ix_lt (kl_121 hM82) g157.2⟩ rfl ?_
                        refine iq_iincv hS 161 J_MSquareRows_check_d158 (c := 1) (by decide +kernel) l92 (by decide) rfl ?_
                        refine iq_goto hS J_MSquareRows_check_d161 (t := 114) rfl ?_
                        exact ih _ _ _ (lw_sI hM82) (lk_1r l83 (by decide)) (lk_1i l84 (by decide)) (lk_1i l85 (by decide)) (lk_1i l86 (by decide)) (lk_1i l87 (by decide)) (lk_1i l88 (by decide)) (lk_1i l89 (by decide)) (lk_1i l90 (by decide)) (lk_1i l91 (by decide)) lk_1s (lq_l h)
                exact I71 n71 _ _ _ hM62 (lk_1r (lk_1r l63 (by decide)) (by decide)) (lk_1i (lk_1i l64 (by decide)) (by decide)) (lk_1i (lk_1i l65 (by decide)) (by decide)) (lk_1i (lk_1i l66 (by decide)) (by decide)) (lk_1i (lk_1i l67 (by decide)) (by decide)) (lk_1i (lk_1i l68 (by decide)) (by decide)) (lk_1i (lk_1i l69 (by decide)) (by decide)) (lk_1i (lk_1i l70 (by decide)) (by decide)) (lk_1i lk_1s (by decide)) lk_1s hn71
          exact I24 n24 _ _ _ hM16 (lk_1r l17 (by decide)) (lk_1i l18 (by decide)) (lk_1i l19 (by decide)) (lk_1i l20 (by decide)) (lk_1i l21 (by decide)) (lk_1i l22 (by decide)) (lk_1i l23 (by decide)) lk_1s hn24
        obtain ⟨r15, hr15, hq15⟩ := h
        obtain ⟨n15, hn15⟩ := lp_n hr15
        have I15 : ∀ (n : Nat) (x94 : Int32) (M95 : im_M) (L' : List (Nat × Value)), lw_S w M95 → im_lk L' 0 = some (.ref 108) → im_lk L' 1 = some (.int p0) → im_lk L' 2 = some (.int p1) → im_lk L' 3 = some (.int x1) → im_lk L' 4 = some (.int x5) → im_lk L' 5 = some (.int x13) → im_lk L' 6 = some (.int x14) → im_lk L' 7 = some (.int x94) → lpn (uc2 (f_MSquareRows_check_L49 p0 p1 x1 x5 x13 x14)) n (x94, M95) = some r15 → ia (tb_G L xs) (dep + 4) J_MSquareRows_check (rwV w Q) (49, L', [], M95) := by
          intro n
          induction n with
          | zero => intro x94 M95 L' hM95 l96 l97 l98 l99 l100 l101 l102 l103 hn; exact (lpn_0 hn).elim
          | succ n ih =>
            intro x94 M95 L' hM95 l96 l97 l98 l99 l100 l101 l102 l103 hn
            have h := lpn_ed2 hn
            unfold f_MSquareRows_check_L49 at h
            refine iq_iload hS 51 J_MSquareRows_check_d49 l103 rfl ?_
            refine iq_iload hS 53 J_MSquareRows_check_d51 l101 rfl ?_
            refine iq_iload_n hS 54 J_MSquareRows_check_d53 l99 rfl ?_
            refine iq_iadd hS 55 J_MSquareRows_check_d54 rfl ?_
            refine iq_icmp_ge hS 58 J_MSquareRows_check_d55 (t := 92) rfl (fun q55 => ?_) rfl (fun q55 => ?_)
            · replace h := ed_pos q55 h
              exact K15 _ _ hM95 l96 l97 l98 l99 l100 l101 l102 (lq_r h hq15)
            · replace h := ed_neg q55 h
              refine iq_aload_n hS 59 J_MSquareRows_check_d58 l96 rfl ?_
              refine iq_getR hS 62 J_MSquareRows_check_d59 lf_16_46 (Or.inr ⟨_, rfl⟩) (ka_108 hM95) (ra_108_20 hM95) rfl ?_
              refine iq_iload hS 64 J_MSquareRows_check_d62 l103 rfl ?_
              refine iq_iload hS 66 J_MSquareRows_check_d64 l103 rfl ?_
              refine iq_iload hS 68 J_MSquareRows_check_d66 l101 rfl ?_
              obtain ⟨Q104, hQ104, h⟩ := bd1_ed h
              have J104 : ∀ (y105 : Int32) (L' : List (Nat × Value)), im_lk L' 0 = some (.ref 108) → im_lk L' 1 = some (.int p0) → im_lk L' 2 = some (.int p1) → im_lk L' 3 = some (.int x1) → im_lk L' 4 = some (.int x5) → im_lk L' 5 = some (.int x13) → im_lk L' 6 = some (.int x14) → im_lk L' 7 = some (.int x94) → Q104 y105 → ia (tb_G L xs) (dep + 4) J_MSquareRows_check (rwV w Q) (85, L', [.int y105, .int x94, .ref 121], M95) := by
                intro y105 L' l106 l107 l108 l109 l110 l111 l112 l113 h
                replace h := hQ104 _ h
                obtain ⟨g85, h⟩ := ed_gd h
                refine iq_iastore hS 86 J_MSquareRows_check_d85 ⟨(ka_121 hM95).1, (ka_121 hM95).2, g85.1, ix_lt (kl_121 hM95) g85.2⟩ rfl ?_
                refine iq_iincv hS 89 J_MSquareRows_check_d86 (c := 1) (by decide +kernel) l113 (by decide) rfl ?_
                refine iq_goto hS J_MSquareRows_check_d89 (t := 49) rfl ?_
                exact ih _ _ _ (lw_sI hM95) (lk_1r l106 (by decide)) (lk_1i l107 (by decide)) (lk_1i l108 (by decide)) (lk_1i l109 (by decide)) (lk_1i l110 (by decide)) (lk_1i l111 (by decide)) (lk_1i l112 (by decide)) lk_1s (lq_l h)
              refine iq_icmp_ge hS 71 J_MSquareRows_check_d68 (t := 84) rfl (fun q68 => ?_) rfl (fun q68 => ?_)
              · replace h := ed_pos q68 h
                refine iq_iconst hS 85 J_MSquareRows_check_d84 (v := 0) (by decide +kernel) rfl ?_
                exact J104 _ _ l96 l97 l98 l99 l100 l101 l102 l103 (ed_some h)
              · replace h := ed_neg q68 h
                refine iq_aload_n hS 72 J_MSquareRows_check_d71 l96 rfl ?_
                refine iq_getR hS 75 J_MSquareRows_check_d72 lf_16_40 (Or.inr ⟨_, rfl⟩) (ka_108 hM95) (ra_108_17 hM95) rfl ?_
                refine iq_iload hS 77 J_MSquareRows_check_d75 l102 rfl ?_
                refine iq_iload hS 79 J_MSquareRows_check_d77 l103 rfl ?_
                refine iq_iadd hS 80 J_MSquareRows_check_d79 rfl ?_
                obtain ⟨g80, h⟩ := ed_gd h
                refine iq_iaload hS 81 J_MSquareRows_check_d80 ⟨(ka_119 hM95).1, (ka_119 hM95).2, g80.1, ix_lt (kl_119 hM95) g80.2⟩ rfl ?_
                refine iq_goto hS J_MSquareRows_check_d81 (t := 85) rfl ?_
                exact J104 _ _ l96 l97 l98 l99 l100 l101 l102 l103 (ed_some h)
        exact I15 n15 _ _ _ hM6 (lk_1r (lk_1r (lk_1r l7 (by decide)) (by decide)) (by decide)) (lk_1i (lk_1i (lk_1i l8 (by decide)) (by decide)) (by decide)) (lk_1i (lk_1i (lk_1i l9 (by decide)) (by decide)) (by decide)) (lk_1i (lk_1i (lk_1i l10 (by decide)) (by decide)) (by decide)) (lk_1i (lk_1i (lk_1i l11 (by decide)) (by decide)) (by decide)) (lk_1i (lk_1i lk_1s (by decide)) (by decide)) (lk_1i lk_1s (by decide)) lk_1s hn15
  exact I3 n3 _ _ _ hM2 (lk_1r (lk_1r l0 (by decide)) (by decide)) (lk_1i (lk_1i l1 (by decide)) (by decide)) (lk_1i (lk_1i l2 (by decide)) (by decide)) (lk_1i lk_1s (by decide)) lk_1s hn3
theorem f_MSquareRows_check_fr {p0 : Int32} {p1 : Int32} {M : im_M} {r : im_M} (h : f_MSquareRows_check p0 p1 M = some r) : fr 174128867447823979350398724896725139456 [] M r := by
  replace h : ed (f_MSquareRows_check p0 p1 M) (fun x => x = r) := ⟨r, h, rfl⟩
  unfold f_MSquareRows_check at h
  obtain ⟨Q1, hQ1, h⟩ := bd1_ed h
  obtain ⟨x1, e1, h⟩ := h
  replace h := hQ1 _ h
  obtain ⟨Q2, hQ2, h⟩ := bd1_ed h
  obtain ⟨M2, e2, h⟩ := h
  replace h := hQ2 _ h
  obtain ⟨Q3, hQ3, h⟩ := bd1_ed h
  have K3 : ∀ (M4 : im_M), fr 174128867447823979350398724896725139456 [] M M4 → Q3 M4 → fr 174128867447823979350398724896725139456 [] M r := by
    intro M4 hM4 h
    replace h := hQ3 _ h
    exact fr_retV h hM4
  obtain ⟨r3, hr3, hq3⟩ := h
  obtain ⟨n3, hn3⟩ := lp_n hr3
  have I3 : ∀ (n : Nat) (x5 : Int32) (M6 : im_M), fr 174128867447823979350398724896725139456 [] M M6 → lpn (uc2 (f_MSquareRows_check_L15 p0 p1 x1)) n (x5, M6) = some r3 → fr 174128867447823979350398724896725139456 [] M r := by
    intro n
    induction n with
    | zero => intro x5 M6 hM6 hn; exact (lpn_0 hn).elim
    | succ n ih =>
      intro x5 M6 hM6 hn
      have h := lpn_ed2 hn
      unfold f_MSquareRows_check_L15 at h
      obtain ⟨Q7, hQ7, h⟩ := bd1_ed h
      obtain ⟨x7, e7, h⟩ := h
      replace h := hQ7 _ h
      by_cases q23 : x7 ≤ x5
      · replace h := ed_pos q23 h
        exact K3 _ hM6 (lq_r h hq3)
      · replace h := ed_neg q23 h
        obtain ⟨Q8, hQ8, h⟩ := bd1_ed h
        obtain ⟨x8, e8, h⟩ := h
        replace h := hQ8 _ h
        obtain ⟨Q9, hQ9, h⟩ := bd1_ed h
        obtain ⟨x9, e9, h⟩ := h
        replace h := hQ9 _ h
        obtain ⟨Q10, hQ10, h⟩ := bd1_ed h
        have K10 : ∀ (M11 : im_M), fr 174128867447823979350398724896725139456 [] M M11 → Q10 M11 → fr 174128867447823979350398724896725139456 [] M r := by
          intro M11 hM11 h
          replace h := hQ10 _ h
          obtain ⟨Q12, hQ12, h⟩ := bd1_ed h
          have K12 : ∀ (M13 : im_M), fr 174128867447823979350398724896725139456 [] M M13 → Q12 M13 → fr 174128867447823979350398724896725139456 [] M r := by
            intro M13 hM13 h
            replace h := hQ12 _ h
            obtain ⟨Q14, hQ14, h⟩ := bd1_ed h
            have K14 : ∀ (M15 : im_M), fr 174128867447823979350398724896725139456 [] M M15 → Q14 M15 → fr 174128867447823979350398724896725139456 [] M r := by
              intro M15 hM15 h
              replace h := hQ14 _ h
              exact ih _ _ hM15 (lq_l h)
            obtain ⟨r14, hr14, hq14⟩ := h
            obtain ⟨n14, hn14⟩ := lp_n hr14
            have I14 : ∀ (n : Nat) (x16 : Int32) (M17 : im_M), fr 174128867447823979350398724896725139456 [] M M17 → lpn (uc2 (f_MSquareRows_check_L173 p0 p1 x1 x5 x8 x9)) n (x16, M17) = some r14 → fr 174128867447823979350398724896725139456 [] M r := by
              intro n
              induction n with
              | zero => intro x16 M17 hM17 hn; exact (lpn_0 hn).elim
              | succ n ih =>
                intro x16 M17 hM17 hn
                have h := lpn_ed2 hn
                unfold f_MSquareRows_check_L173 at h
                by_cases q179 : (x8 + x1) ≤ x16
                · replace h := ed_pos q179 h
                  exact K14 _ hM17 (lq_r h hq14)
                · replace h := ed_neg q179 h
                  obtain ⟨Q18, hQ18, h⟩ := bd1_ed h
                  obtain ⟨x18, e18, h⟩ := h
                  replace h := hQ18 _ h
                  obtain ⟨Q19, hQ19, h⟩ := bd1_ed h
                  have J19 : ∀ (y20 : Int32), Q19 y20 → fr 174128867447823979350398724896725139456 [] M r := by
                    intro y20 h
                    replace h := hQ19 _ h
                    obtain ⟨g223, h⟩ := ed_gd h
                    exact ih _ _ (fr_I (by decide) hM17) (lq_l h)
                  by_cases q200 : x8 ≤ x16
                  · replace h := ed_pos q200 h
                    obtain ⟨g222, h⟩ := ed_gd h
                    exact J19 _ (ed_some h)
                  · replace h := ed_neg q200 h
                    obtain ⟨g212, h⟩ := ed_gd h
                    exact J19 _ (ed_some h)
            exact I14 n14 _ _ hM13 hn14
          obtain ⟨r12, hr12, hq12⟩ := h
          obtain ⟨n12, hn12⟩ := lp_n hr12
          have I12 : ∀ (n : Nat) (x29 : Int32) (M30 : im_M), fr 174128867447823979350398724896725139456 [] M M30 → lpn (uc2 (f_MSquareRows_check_L95 p0 p1 x1 x5 x8 x9)) n (x29, M30) = some r12 → fr 174128867447823979350398724896725139456 [] M r := by
            intro n
            induction n with
            | zero => intro x29 M30 hM30 hn; exact (lpn_0 hn).elim
            | succ n ih =>
              intro x29 M30 hM30 hn
              have h := lpn_ed2 hn
              unfold f_MSquareRows_check_L95 at h
              by_cases q99 : x8 ≤ x29
              · replace h := ed_pos q99 h
                exact K12 _ hM30 (lq_r h hq12)
              · replace h := ed_neg q99 h
                obtain ⟨g108, h⟩ := ed_gd h
                obtain ⟨Q31, hQ31, h⟩ := bd1_ed h
                have K31 : ∀ (M32 : im_M), fr 174128867447823979350398724896725139456 [] M M32 → Q31 M32 → fr 174128867447823979350398724896725139456 [] M r := by
                  intro M32 hM32 h
                  replace h := hQ31 _ h
                  exact ih _ _ hM32 (lq_l h)
                obtain ⟨r31, hr31, hq31⟩ := h
                obtain ⟨n31, hn31⟩ := lp_n hr31
                have I31 : ∀ (n : Nat) (x33 : Int32) (M34 : im_M), fr 174128867447823979350398724896725139456 [] M M34 → lpn (uc2 (f_MSquareRows_check_L114 p0 p1 x1 x5 x8 x9 x29 (im_i M30 121 (Int32.toNatClampNeg x29)))) n (x33, M34) = some r31 → fr 174128867447823979350398724896725139456 [] M r := by
                  intro n
                  induction n with
                  | zero => intro x33 M34 hM34 hn; exact (lpn_0 hn).elim
                  | succ n ih =>
                    intro x33 M34 hM34 hn
                    have h := lpn_ed2 hn
                    unfold f_MSquareRows_check_L114 at h
                    by_cases q117 : x1 < x33
                    · replace h := ed_pos q117 h
                      exact K31 _ hM34 (lq_r h hq31)
                    · replace h := ed_neg q117 h
                      by_cases q122 : (im_i M30 121 (Int32.toNatClampNeg x29)) = 0
                      · replace h := ed_pos q122 h
                        exact K31 _ hM34 (lq_r h hq31)
                      · replace h := ed_neg q122 h
                        obtain ⟨g143, h⟩ := ed_gd h
                        obtain ⟨g152, h⟩ := ed_gd h
                        obtain ⟨Q35, hQ35, h⟩ := bd1_ed h
                        obtain ⟨x35, e35, h⟩ := h
                        replace h := hQ35 _ h
                        obtain ⟨g157, h⟩ := ed_gd h
                        exact ih _ _ (fr_I (by decide) hM34) (lq_l h)
                exact I31 n31 _ _ hM30 hn31
          exact I12 n12 _ _ hM11 hn12
        obtain ⟨r10, hr10, hq10⟩ := h
        obtain ⟨n10, hn10⟩ := lp_n hr10
        have I10 : ∀ (n : Nat) (x36 : Int32) (M37 : im_M), fr 174128867447823979350398724896725139456 [] M M37 → lpn (uc2 (f_MSquareRows_check_L49 p0 p1 x1 x5 x8 x9)) n (x36, M37) = some r10 → fr 174128867447823979350398724896725139456 [] M r := by
          intro n
          induction n with
          | zero => intro x36 M37 hM37 hn; exact (lpn_0 hn).elim
          | succ n ih =>
            intro x36 M37 hM37 hn
            have h := lpn_ed2 hn
            unfold f_MSquareRows_check_L49 at h
            by_cases q55 : (x8 + x1) ≤ x36
            · replace h := ed_pos q55 h
              exact K10 _ hM37 (lq_r h hq10)
            · replace h := ed_neg q55 h
              obtain ⟨Q38, hQ38, h⟩ := bd1_ed h
              have J38 : ∀ (y39 : Int32), Q38 y39 → fr 174128867447823979350398724896725139456 [] M r := by
                intro y39 h
                replace h := hQ38 _ h
                obtain ⟨g85, h⟩ := ed_gd h
                exact ih _ _ (fr_I (by decide) hM37) (lq_l h)
              by_cases q68 : x8 ≤ x36
              · replace h := ed_pos q68 h
                exact J38 _ (ed_some h)
              · replace h := ed_neg q68 h
                obtain ⟨g80, h⟩ := ed_gd h
                exact J38 _ (ed_some h)
        exact I10 n10 _ _ hM6 hn10
  exact I3 n3 _ _ (fr_tr (fr_mono (by decide) (by decide +kernel) (f_MSquareRows_generate_fr e2)) fr_refl) hn3
noncomputable def f_MSquareRows_sideOf (p0 : Int32) (M : im_M) : Option (Int32) := some ((17 : Int32) + ((4 : Int32) * p0))
theorem J_MSquareRows_sideOf_d0 : decode J_MSquareRows_sideOf.2.1 0 = .ok (.bipush 17, 2) := by decide +kernel
theorem J_MSquareRows_sideOf_d2 : decode J_MSquareRows_sideOf.2.1 2 = .ok (.iconst 4, 1) := by decide +kernel
theorem J_MSquareRows_sideOf_d3 : decode J_MSquareRows_sideOf.2.1 3 = .ok (.iload_n 0, 1) := by decide +kernel
theorem J_MSquareRows_sideOf_d4 : decode J_MSquareRows_sideOf.2.1 4 = .ok (.imul, 1) := by decide +kernel
theorem J_MSquareRows_sideOf_d5 : decode J_MSquareRows_sideOf.2.1 5 = .ok (.iadd, 1) := by decide +kernel
theorem J_MSquareRows_sideOf_d6 : decode J_MSquareRows_sideOf.2.1 6 = .ok (.ireturn, 1) := by decide +kernel
theorem f_MSquareRows_sideOf_ok {L : Nat} {xs : Nat → Int32} {dep : Nat} {w : Bool} {p0 : Int32} {M : im_M} {Q : Int32 → Prop} (hM : lw_S w M) (h : ed (f_MSquareRows_sideOf p0 M) Q) : ia (tb_G L xs) dep J_MSquareRows_sideOf (rpI M Q) (0, lv_args 0 [.int p0], [], M) := by
  have hS : im_St (tb_G L xs) dep J_MSquareRows_sideOf (ia (tb_G L xs) dep J_MSquareRows_sideOf (rpI M Q)) := ia_St
  unfold f_MSquareRows_sideOf at h
  have l0 : im_lk (lv_args 0 [.int p0]) 0 = some (.int p0) := rfl
  refine iq_bipush hS 2 J_MSquareRows_sideOf_d0 (v := 17) (by decide +kernel) rfl ?_
  refine iq_iconst hS 3 J_MSquareRows_sideOf_d2 (v := 4) (by decide +kernel) rfl ?_
  refine iq_iload_n hS 4 J_MSquareRows_sideOf_d3 l0 rfl ?_
  refine iq_imul hS 5 J_MSquareRows_sideOf_d4 rfl ?_
  refine iq_iadd hS 6 J_MSquareRows_sideOf_d5 rfl ?_
  exact iq_iret J_MSquareRows_sideOf_d6 rfl rfl ⟨_, rfl, rfl, ed_some h⟩
noncomputable def f_MSquareRows_moduleAt (p0 : Int32) (p1 : Int32) (M : im_M) : Option (Int32) := some (p0 + ((177 : Int32) * p1))
theorem J_MSquareRows_moduleAt_d0 : decode J_MSquareRows_moduleAt.2.1 0 = .ok (.iload_n 1, 1) := by decide +kernel
theorem J_MSquareRows_moduleAt_d1 : decode J_MSquareRows_moduleAt.2.1 1 = .ok (.sipush 177, 3) := by decide +kernel
theorem J_MSquareRows_moduleAt_d4 : decode J_MSquareRows_moduleAt.2.1 4 = .ok (.iload_n 2, 1) := by decide +kernel
theorem J_MSquareRows_moduleAt_d5 : decode J_MSquareRows_moduleAt.2.1 5 = .ok (.imul, 1) := by decide +kernel
theorem J_MSquareRows_moduleAt_d6 : decode J_MSquareRows_moduleAt.2.1 6 = .ok (.iadd, 1) := by decide +kernel
theorem J_MSquareRows_moduleAt_d7 : decode J_MSquareRows_moduleAt.2.1 7 = .ok (.ireturn, 1) := by decide +kernel
theorem f_MSquareRows_moduleAt_ok {L : Nat} {xs : Nat → Int32} {dep : Nat} {w : Bool} {p0 : Int32} {p1 : Int32} {M : im_M} {Q : Int32 → Prop} (hM : lw_S w M) (h : ed (f_MSquareRows_moduleAt p0 p1 M) Q) : ia (tb_G L xs) dep J_MSquareRows_moduleAt (rpI M Q) (0, lv_args 0 [.ref 108, .int p0, .int p1], [], M) := by
  have hS : im_St (tb_G L xs) dep J_MSquareRows_moduleAt (ia (tb_G L xs) dep J_MSquareRows_moduleAt (rpI M Q)) := ia_St
  unfold f_MSquareRows_moduleAt at h
  have l0 : im_lk (lv_args 0 [.ref 108, .int p0, .int p1]) 0 = some (.ref 108) := rfl
  have l1 : im_lk (lv_args 0 [.ref 108, .int p0, .int p1]) 1 = some (.int p0) := rfl
  have l2 : im_lk (lv_args 0 [.ref 108, .int p0, .int p1]) 2 = some (.int p1) := rfl
  refine iq_iload_n hS 1 J_MSquareRows_moduleAt_d0 l1 rfl ?_
  refine iq_sipush hS 4 J_MSquareRows_moduleAt_d1 (v := 177) (by decide +kernel) rfl ?_
  refine iq_iload_n hS 5 J_MSquareRows_moduleAt_d4 l2 rfl ?_
  refine iq_imul hS 6 J_MSquareRows_moduleAt_d5 rfl ?_
  refine iq_iadd hS 7 J_MSquareRows_moduleAt_d6 rfl ?_
  exact iq_iret J_MSquareRows_moduleAt_d7 rfl rfl ⟨_, rfl, rfl, ed_some h⟩
noncomputable def f_MSquareRows_fix (p0 : Int32) (p1 : Int32) (p2 : Int32) (M : im_M) : Option (im_M) := if p0 < 0 then some M else if p1 < 0 then some M else if (im_i M 108 8) ≤ p0 then some M else if (im_i M 108 8) ≤ p1 then some M else bd1 (f_MSquareRows_moduleAt p0 p1 M) fun (x1 : Int32) => gd (inb x1 31329) <| bd1 (f_MSquareRows_moduleAt p0 p1 (im_setI M 112 (Int32.toNatClampNeg x1) ((if p2 = 0 then 0 else 1) : Int32))) fun (x3 : Int32) => gd (inb x3 31329) <| some (im_setI (im_setI M 112 (Int32.toNatClampNeg x1) ((if p2 = 0 then 0 else 1) : Int32)) 113 (Int32.toNatClampNeg x3) 1)
theorem J_MSquareRows_fix_d0 : decode J_MSquareRows_fix.2.1 0 = .ok (.iload_n 1, 1) := by decide +kernel
theorem J_MSquareRows_fix_d1 : decode J_MSquareRows_fix.2.1 1 = .ok (.ifCond .lt 55, 3) := by decide +kernel
theorem J_MSquareRows_fix_d4 : decode J_MSquareRows_fix.2.1 4 = .ok (.iload_n 2, 1) := by decide +kernel
theorem J_MSquareRows_fix_d5 : decode J_MSquareRows_fix.2.1 5 = .ok (.ifCond .lt 51, 3) := by decide +kernel
theorem J_MSquareRows_fix_d8 : decode J_MSquareRows_fix.2.1 8 = .ok (.iload_n 1, 1) := by decide +kernel
theorem J_MSquareRows_fix_d9 : decode J_MSquareRows_fix.2.1 9 = .ok (.aload_n 0, 1) := by decide +kernel
theorem J_MSquareRows_fix_d10 : decode J_MSquareRows_fix.2.1 10 = .ok (.getfield 163, 3) := by decide +kernel
theorem J_MSquareRows_fix_d13 : decode J_MSquareRows_fix.2.1 13 = .ok (.if_icmp .ge 43, 3) := by decide +kernel
theorem J_MSquareRows_fix_d16 : decode J_MSquareRows_fix.2.1 16 = .ok (.iload_n 2, 1) := by decide +kernel
theorem J_MSquareRows_fix_d17 : decode J_MSquareRows_fix.2.1 17 = .ok (.aload_n 0, 1) := by decide +kernel
theorem J_MSquareRows_fix_d18 : decode J_MSquareRows_fix.2.1 18 = .ok (.getfield 163, 3) := by decide +kernel
theorem J_MSquareRows_fix_d21 : decode J_MSquareRows_fix.2.1 21 = .ok (.if_icmp .ge 35, 3) := by decide +kernel
theorem J_MSquareRows_fix_d24 : decode J_MSquareRows_fix.2.1 24 = .ok (.aload_n 0, 1) := by decide +kernel
theorem J_MSquareRows_fix_d25 : decode J_MSquareRows_fix.2.1 25 = .ok (.getfield 19, 3) := by decide +kernel
theorem J_MSquareRows_fix_d28 : decode J_MSquareRows_fix.2.1 28 = .ok (.aload_n 0, 1) := by decide +kernel
theorem J_MSquareRows_fix_d29 : decode J_MSquareRows_fix.2.1 29 = .ok (.iload_n 1, 1) := by decide +kernel
theorem J_MSquareRows_fix_d30 : decode J_MSquareRows_fix.2.1 30 = .ok (.iload_n 2, 1) := by decide +kernel
theorem J_MSquareRows_fix_d31 : decode J_MSquareRows_fix.2.1 31 = .ok (.invokevirtual 166, 3) := by decide +kernel
theorem J_MSquareRows_fix_d34 : decode J_MSquareRows_fix.2.1 34 = .ok (.iload_n 3, 1) := by decide +kernel
theorem J_MSquareRows_fix_d35 : decode J_MSquareRows_fix.2.1 35 = .ok (.ifCond .eq 7, 3) := by decide +kernel
theorem J_MSquareRows_fix_d38 : decode J_MSquareRows_fix.2.1 38 = .ok (.iconst 1, 1) := by decide +kernel
theorem J_MSquareRows_fix_d39 : decode J_MSquareRows_fix.2.1 39 = .ok (.goto 4, 3) := by decide +kernel
theorem J_MSquareRows_fix_d42 : decode J_MSquareRows_fix.2.1 42 = .ok (.iconst 0, 1) := by decide +kernel
theorem J_MSquareRows_fix_d43 : decode J_MSquareRows_fix.2.1 43 = .ok (.iastore, 1) := by decide +kernel
theorem J_MSquareRows_fix_d44 : decode J_MSquareRows_fix.2.1 44 = .ok (.aload_n 0, 1) := by decide +kernel
theorem J_MSquareRows_fix_d45 : decode J_MSquareRows_fix.2.1 45 = .ok (.getfield 22, 3) := by decide +kernel
theorem J_MSquareRows_fix_d48 : decode J_MSquareRows_fix.2.1 48 = .ok (.aload_n 0, 1) := by decide +kernel
theorem J_MSquareRows_fix_d49 : decode J_MSquareRows_fix.2.1 49 = .ok (.iload_n 1, 1) := by decide +kernel
theorem J_MSquareRows_fix_d50 : decode J_MSquareRows_fix.2.1 50 = .ok (.iload_n 2, 1) := by decide +kernel
theorem J_MSquareRows_fix_d51 : decode J_MSquareRows_fix.2.1 51 = .ok (.invokevirtual 166, 3) := by decide +kernel
theorem J_MSquareRows_fix_d54 : decode J_MSquareRows_fix.2.1 54 = .ok (.iconst 1, 1) := by decide +kernel
theorem J_MSquareRows_fix_d55 : decode J_MSquareRows_fix.2.1 55 = .ok (.iastore, 1) := by decide +kernel
theorem J_MSquareRows_fix_d56 : decode J_MSquareRows_fix.2.1 56 = .ok (.return_, 1) := by decide +kernel
theorem f_MSquareRows_fix_ok {L : Nat} {xs : Nat → Int32} {dep : Nat} {w : Bool} {p0 : Int32} {p1 : Int32} {p2 : Int32} {M : im_M} {Q : im_M → Prop} (hM : lw_S w M) (h : ed (f_MSquareRows_fix p0 p1 p2 M) Q) : ia (tb_G L xs) (dep + 1) J_MSquareRows_fix (rwV w Q) (0, lv_args 0 [.ref 108, .int p0, .int p1, .int p2], [], M) := by
  have hS : im_St (tb_G L xs) (dep + 1) J_MSquareRows_fix (ia (tb_G L xs) (dep + 1) J_MSquareRows_fix (rwV w Q)) := ia_St
  unfold f_MSquareRows_fix at h
  have l0 : im_lk (lv_args 0 [.ref 108, .int p0, .int p1, .int p2]) 0 = some (.ref 108) := rfl
  have l1 : im_lk (lv_args 0 [.ref 108, .int p0, .int p1, .int p2]) 1 = some (.int p0) := rfl
  have l2 : im_lk (lv_args 0 [.ref 108, .int p0, .int p1, .int p2]) 2 = some (.int p1) := rfl
  have l3 : im_lk (lv_args 0 [.ref 108, .int p0, .int p1, .int p2]) 3 = some (.int p2) := rfl
  refine iq_iload_n hS 1 J_MSquareRows_fix_d0 l1 rfl ?_
  refine iq_if_lt hS 4 J_MSquareRows_fix_d1 (t := 56) rfl (fun q1 => ?_) rfl (fun q1 => ?_)
  · replace h := ed_pos q1 h
    exact iq_ret J_MSquareRows_fix_d56 rfl ⟨rfl, hM, ed_some h⟩
  · replace h := ed_neg q1 h
    refine iq_iload_n hS 5 J_MSquareRows_fix_d4 l2 rfl ?_
    refine iq_if_lt hS 8 J_MSquareRows_fix_d5 (t := 56) rfl (fun q5 => ?_) rfl (fun q5 => ?_)
    · replace h := ed_pos q5 h
      exact iq_ret J_MSquareRows_fix_d56 rfl ⟨rfl, hM, ed_some h⟩
    · replace h := ed_neg q5 h
      refine iq_iload_n hS 9 J_MSquareRows_fix_d8 l1 rfl ?_
      refine iq_aload_n hS 10 J_MSquareRows_fix_d9 l0 rfl ?_
      refine iq_getI hS 13 J_MSquareRows_fix_d10 lf_16_163 (Or.inl rfl) (ka_108 hM) rfl ?_
      refine iq_icmp_ge hS 16 J_MSquareRows_fix_d13 (t := 56) rfl (fun q13 => ?_) rfl (fun q13 => ?_)
      · replace h := ed_pos q13 h
        exact iq_ret J_MSquareRows_fix_d56 rfl ⟨rfl, hM, ed_some h⟩
      · replace h := ed_neg q13 h
        refine iq_iload_n hS 17 J_MSquareRows_fix_d16 l2 rfl ?_
        refine iq_aload_n hS 18 J_MSquareRows_fix_d17 l0 rfl ?_
        refine iq_getI hS 21 J_MSquareRows_fix_d18 lf_16_163 (Or.inl rfl) (ka_108 hM) rfl ?_
        refine iq_icmp_ge hS 24 J_MSquareRows_fix_d21 (t := 56) rfl (fun q21 => ?_) rfl (fun q21 => ?_)
        · replace h := ed_pos q21 h
          exact iq_ret J_MSquareRows_fix_d56 rfl ⟨rfl, hM, ed_some h⟩
        · replace h := ed_neg q21 h
          refine iq_aload_n hS 25 J_MSquareRows_fix_d24 l0 rfl ?_
          refine iq_getR hS 28 J_MSquareRows_fix_d25 lf_16_19 (Or.inr ⟨_, rfl⟩) (ka_108 hM) (ra_108_5 hM) rfl ?_
          refine iq_aload_n hS 29 J_MSquareRows_fix_d28 l0 rfl ?_
          refine iq_iload_n hS 30 J_MSquareRows_fix_d29 l1 rfl ?_
          refine iq_iload_n hS 31 J_MSquareRows_fix_d30 l2 rfl ?_
          obtain ⟨Q1, hQ1, h⟩ := bd1_ed h
          refine iq_cpI hS 34 J_MSquareRows_fix_d31 rfl (pr_inst (vs := [_, _]) lc_16_166 lT_418 rfl rfl (by decide) (by decide) rfl (Nat.le_of_ble_eq_true rfl) (Nat.le_of_ble_eq_true rfl) (fun _ => Or.inl (pr_b (ka_108 hM) (by decide) rfl))) (f_MSquareRows_moduleAt_ok (dep := dep + 0) hM h) rfl ?_
          intro x1 h
          replace h := hQ1 _ h
          refine iq_iload_n hS 35 J_MSquareRows_fix_d34 l3 rfl ?_
          have J2 : ∀ (z3 : Int32) (L' : List (Nat × Value)), z3 = ((if p2 = 0 then 0 else 1) : Int32) → im_lk L' 0 = some (.ref 108) → im_lk L' 1 = some (.int p0) → im_lk L' 2 = some (.int p1) → ia (tb_G L xs) (dep + 1) J_MSquareRows_fix (rwV w Q) (43, L', [.int z3, .int x1, .ref 112], M) := by
            intro z3 L' e4 l5 l6 l7
            subst e4
            obtain ⟨g43, h⟩ := ed_gd h
            refine iq_iastore hS 44 J_MSquareRows_fix_d43 ⟨(ka_112 hM).1, (ka_112 hM).2, g43.1, ix_lt (kl_112 hM) g43.2⟩ rfl ?_
            refine iq_aload_n hS 45 J_MSquareRows_fix_d44 l5 rfl ?_
            refine iq_getR hS 48 J_MSquareRows_fix_d45 lf_16_22 (Or.inr ⟨_, rfl⟩) (ka_108 (lw_sI hM)) (ra_108_6 (lw_sI hM)) rfl ?_
            refine iq_aload_n hS 49 J_MSquareRows_fix_d48 l5 rfl ?_
            refine iq_iload_n hS 50 J_MSquareRows_fix_d49 l6 rfl ?_
            refine iq_iload_n hS 51 J_MSquareRows_fix_d50 l7 rfl ?_
            obtain ⟨Q8, hQ8, h⟩ := bd1_ed h
            refine iq_cpI hS 54 J_MSquareRows_fix_d51 rfl (pr_inst (vs := [_, _]) lc_16_166 lT_418 rfl rfl (by decide) (by decide) rfl (Nat.le_of_ble_eq_true rfl) (Nat.le_of_ble_eq_true rfl) (fun _ => Or.inl (pr_b (ka_108 (lw_sI hM)) (by decide) rfl))) (f_MSquareRows_moduleAt_ok (dep := dep + 0) (lw_sI hM) h) rfl ?_
            intro x8 h
            replace h := hQ8 _ h
            refine iq_iconst hS 55 J_MSquareRows_fix_d54 (v := 1) (by decide +kernel) rfl ?_
            obtain ⟨g55, h⟩ := ed_gd h
            refine iq_iastore hS 56 J_MSquareRows_fix_d55 ⟨(ka_113 (lw_sI hM)).1, (ka_113 (lw_sI hM)).2, g55.1, ix_lt (kl_113 (lw_sI hM)) g55.2⟩ rfl ?_
            exact iq_ret J_MSquareRows_fix_d56 rfl ⟨rfl, (lw_sI (lw_sI hM)), ed_some h⟩
          refine iq_if_eq hS 38 J_MSquareRows_fix_d35 (t := 42) rfl (fun q35 => ?_) rfl (fun q35 => ?_)
          · refine iq_iconst hS 43 J_MSquareRows_fix_d42 (v := 0) (by decide +kernel) rfl ?_
            exact J2 _ _ (by simp only [if_pos q35]) l0 l1 l2
          · refine iq_iconst hS 39 J_MSquareRows_fix_d38 (v := 1) (by decide +kernel) rfl ?_
            refine iq_goto hS J_MSquareRows_fix_d39 (t := 43) rfl ?_
            exact J2 _ _ (by simp only [if_neg q35]) l0 l1 l2
theorem f_MSquareRows_fix_fr {p0 : Int32} {p1 : Int32} {p2 : Int32} {M : im_M} {r : im_M} (h : f_MSquareRows_fix p0 p1 p2 M = some r) : fr 15576890575604482885591488987660288 [] M r := by
  replace h : ed (f_MSquareRows_fix p0 p1 p2 M) (fun x => x = r) := ⟨r, h, rfl⟩
  unfold f_MSquareRows_fix at h
  by_cases q1 : p0 < 0
  · replace h := ed_pos q1 h
    exact fr_retV h fr_refl
  · replace h := ed_neg q1 h
    by_cases q5 : p1 < 0
    · replace h := ed_pos q5 h
      exact fr_retV h fr_refl
    · replace h := ed_neg q5 h
      by_cases q13 : (im_i M 108 8) ≤ p0
      · replace h := ed_pos q13 h
        exact fr_retV h fr_refl
      · replace h := ed_neg q13 h
        by_cases q21 : (im_i M 108 8) ≤ p1
        · replace h := ed_pos q21 h
          exact fr_retV h fr_refl
        · replace h := ed_neg q21 h
          obtain ⟨Q1, hQ1, h⟩ := bd1_ed h
          obtain ⟨x1, e1, h⟩ := h
          replace h := hQ1 _ h
          obtain ⟨g43, h⟩ := ed_gd h
          obtain ⟨Q3, hQ3, h⟩ := bd1_ed h
          obtain ⟨x3, e3, h⟩ := h
          replace h := hQ3 _ h
          obtain ⟨g55, h⟩ := ed_gd h
          exact fr_retV h (fr_I (by decide) (fr_I (by decide) fr_refl))
noncomputable def f_MSquareRows_greater (p0 : Int32) (p1 : Int32) (M : im_M) : Option (Int32) := if ((if 0 ≤ p0 then p0 else (-p0)) : Int32) ≤ ((if 0 ≤ p1 then p1 else (-p1)) : Int32) then some ((if 0 ≤ p1 then p1 else (-p1)) : Int32) else some ((if 0 ≤ p0 then p0 else (-p0)) : Int32)
theorem J_MSquareRows_greater_d0 : decode J_MSquareRows_greater.2.1 0 = .ok (.iload_n 0, 1) := by decide +kernel
theorem J_MSquareRows_greater_d1 : decode J_MSquareRows_greater.2.1 1 = .ok (.ifCond .ge 8, 3) := by decide +kernel
theorem J_MSquareRows_greater_d4 : decode J_MSquareRows_greater.2.1 4 = .ok (.iload_n 0, 1) := by decide +kernel
theorem J_MSquareRows_greater_d5 : decode J_MSquareRows_greater.2.1 5 = .ok (.ineg, 1) := by decide +kernel
theorem J_MSquareRows_greater_d6 : decode J_MSquareRows_greater.2.1 6 = .ok (.goto 4, 3) := by decide +kernel
theorem J_MSquareRows_greater_d9 : decode J_MSquareRows_greater.2.1 9 = .ok (.iload_n 0, 1) := by decide +kernel
theorem J_MSquareRows_greater_d10 : decode J_MSquareRows_greater.2.1 10 = .ok (.istore_n 2, 1) := by decide +kernel
theorem J_MSquareRows_greater_d11 : decode J_MSquareRows_greater.2.1 11 = .ok (.iload_n 1, 1) := by decide +kernel
theorem J_MSquareRows_greater_d12 : decode J_MSquareRows_greater.2.1 12 = .ok (.ifCond .ge 8, 3) := by decide +kernel
theorem J_MSquareRows_greater_d15 : decode J_MSquareRows_greater.2.1 15 = .ok (.iload_n 1, 1) := by decide +kernel
theorem J_MSquareRows_greater_d16 : decode J_MSquareRows_greater.2.1 16 = .ok (.ineg, 1) := by decide +kernel
theorem J_MSquareRows_greater_d17 : decode J_MSquareRows_greater.2.1 17 = .ok (.goto 4, 3) := by decide +kernel
theorem J_MSquareRows_greater_d20 : decode J_MSquareRows_greater.2.1 20 = .ok (.iload_n 1, 1) := by decide +kernel
theorem J_MSquareRows_greater_d21 : decode J_MSquareRows_greater.2.1 21 = .ok (.istore_n 3, 1) := by decide +kernel
theorem J_MSquareRows_greater_d22 : decode J_MSquareRows_greater.2.1 22 = .ok (.iload_n 2, 1) := by decide +kernel
theorem J_MSquareRows_greater_d23 : decode J_MSquareRows_greater.2.1 23 = .ok (.iload_n 3, 1) := by decide +kernel
theorem J_MSquareRows_greater_d24 : decode J_MSquareRows_greater.2.1 24 = .ok (.if_icmp .le 7, 3) := by decide +kernel
theorem J_MSquareRows_greater_d27 : decode J_MSquareRows_greater.2.1 27 = .ok (.iload_n 2, 1) := by decide +kernel
theorem J_MSquareRows_greater_d28 : decode J_MSquareRows_greater.2.1 28 = .ok (.goto 4, 3) := by decide +kernel
theorem J_MSquareRows_greater_d31 : decode J_MSquareRows_greater.2.1 31 = .ok (.iload_n 3, 1) := by decide +kernel
theorem J_MSquareRows_greater_d32 : decode J_MSquareRows_greater.2.1 32 = .ok (.ireturn, 1) := by decide +kernel
theorem f_MSquareRows_greater_ok {L : Nat} {xs : Nat → Int32} {dep : Nat} {w : Bool} {p0 : Int32} {p1 : Int32} {M : im_M} {Q : Int32 → Prop} (hM : lw_S w M) (h : ed (f_MSquareRows_greater p0 p1 M) Q) : ia (tb_G L xs) dep J_MSquareRows_greater (rpI M Q) (0, lv_args 0 [.int p0, .int p1], [], M) := by
  have hS : im_St (tb_G L xs) dep J_MSquareRows_greater (ia (tb_G L xs) dep J_MSquareRows_greater (rpI M Q)) := ia_St
  unfold f_MSquareRows_greater at h
  have l0 : im_lk (lv_args 0 [.int p0, .int p1]) 0 = some (.int p0) := rfl
  have l1 : im_lk (lv_args 0 [.int p0, .int p1]) 1 = some (.int p1) := rfl
  refine iq_iload_n hS 1 J_MSquareRows_greater_d0 l0 rfl ?_
  have J1 : ∀ (z2 : Int32) (L' : List (Nat × Value)), z2 = ((if 0 ≤ p0 then p0 else (-p0)) : Int32) → im_lk L' 1 = some (.int p1) → ia (tb_G L xs) dep J_MSquareRows_greater (rpI M Q) (10, L', [.int z2], M) := by
    intro z2 L' e3 l4
    subst e3
    refine iq_istore_n hS 11 J_MSquareRows_greater_d10 (by decide) rfl ?_
    refine iq_iload_n hS 12 J_MSquareRows_greater_d11 (lk_1i l4 (by decide)) rfl ?_
    have J5 : ∀ (z6 : Int32) (L' : List (Nat × Value)), z6 = ((if 0 ≤ p1 then p1 else (-p1)) : Int32) → im_lk L' 2 = some (.int ((if 0 ≤ p0 then p0 else (-p0)) : Int32)) → ia (tb_G L xs) dep J_MSquareRows_greater (rpI M Q) (21, L', [.int z6], M) := by
      intro z6 L' e7 l8
      subst e7
      refine iq_istore_n hS 22 J_MSquareRows_greater_d21 (by decide) rfl ?_
      refine iq_iload_n hS 23 J_MSquareRows_greater_d22 (lk_1i l8 (by decide)) rfl ?_
      refine iq_iload_n hS 24 J_MSquareRows_greater_d23 lk_1s rfl ?_
      refine iq_icmp_le hS 27 J_MSquareRows_greater_d24 (t := 31) rfl (fun q24 => ?_) rfl (fun q24 => ?_)
      · replace h := ed_pos q24 h
        refine iq_iload_n hS 32 J_MSquareRows_greater_d31 lk_1s rfl ?_
        exact iq_iret J_MSquareRows_greater_d32 rfl rfl ⟨_, rfl, rfl, ed_some h⟩
      · replace h := ed_neg q24 h
        refine iq_iload_n hS 28 J_MSquareRows_greater_d27 (lk_1i l8 (by decide)) rfl ?_
        refine iq_goto hS J_MSquareRows_greater_d28 (t := 32) rfl ?_
        exact iq_iret J_MSquareRows_greater_d32 rfl rfl ⟨_, rfl, rfl, ed_some h⟩
    refine iq_if_ge hS 15 J_MSquareRows_greater_d12 (t := 20) rfl (fun q12 => ?_) rfl (fun q12 => ?_)
    · refine iq_iload_n hS 21 J_MSquareRows_greater_d20 (lk_1i l4 (by decide)) rfl ?_
      exact J5 _ _ (by simp only [if_pos q12]) lk_1s
    · refine iq_iload_n hS 16 J_MSquareRows_greater_d15 (lk_1i l4 (by decide)) rfl ?_
      refine iq_ineg hS 17 J_MSquareRows_greater_d16 rfl ?_
      refine iq_goto hS J_MSquareRows_greater_d17 (t := 21) rfl ?_
      exact J5 _ _ (by simp only [if_neg q12]) lk_1s
  refine iq_if_ge hS 4 J_MSquareRows_greater_d1 (t := 9) rfl (fun q1 => ?_) rfl (fun q1 => ?_)
  · refine iq_iload_n hS 10 J_MSquareRows_greater_d9 l0 rfl ?_
    exact J1 _ _ (by simp only [if_pos q1]) l1
  · refine iq_iload_n hS 5 J_MSquareRows_greater_d4 l0 rfl ?_
    refine iq_ineg hS 6 J_MSquareRows_greater_d5 rfl ?_
    refine iq_goto hS J_MSquareRows_greater_d6 (t := 10) rfl ?_
    exact J1 _ _ (by simp only [if_neg q1]) l1
noncomputable def f_MSquareRows_square_L14 (v9 : Int32) (v10 : Int32) (v11 : Int32) (v12 : Int32) (v13 : Int32) (x14 : Int32) (M15 : im_M) : Option ((Int32 × im_M) ⊕ (im_M)) := if v11 < x14 then some (.inr M15) else bd1 (f_MSquareRows_greater x14 v13 M15) fun (x16 : Int32) => bd1 (f_MSquareRows_fix (v9 + x14) (v10 + v13) ((if v12 = 0 then (if x16 = 1 then 0 else 1) else (if x16 = 2 then 0 else (if x16 = 4 then 0 else 1))) : Int32) M15) fun (M18 : im_M) => some (.inl ((x14 + 1), M18))
noncomputable def f_MSquareRows_square_L4 (v2 : Int32) (v3 : Int32) (v4 : Int32) (v5 : Int32) (x6 : Int32) (M7 : im_M) : Option ((Int32 × im_M) ⊕ (im_M)) := if v4 < x6 then some (.inr M7) else bd1 (lp (uc2 (f_MSquareRows_square_L14 v2 v3 v4 v5 x6)) ((-v4), M7)) fun (M19 : im_M) => some (.inl ((x6 + 1), M19))
noncomputable def f_MSquareRows_square (p0 : Int32) (p1 : Int32) (p2 : Int32) (p3 : Int32) (M : im_M) : Option (im_M) := bd1 (lp (uc2 (f_MSquareRows_square_L4 p0 p1 p2 p3)) ((-p2), M)) fun (M20 : im_M) => some M20
theorem J_MSquareRows_square_d0 : decode J_MSquareRows_square.2.1 0 = .ok (.iload_n 3, 1) := by decide +kernel
theorem J_MSquareRows_square_d1 : decode J_MSquareRows_square.2.1 1 = .ok (.ineg, 1) := by decide +kernel
theorem J_MSquareRows_square_d2 : decode J_MSquareRows_square.2.1 2 = .ok (.istore 5, 2) := by decide +kernel
theorem J_MSquareRows_square_d4 : decode J_MSquareRows_square.2.1 4 = .ok (.iload 5, 2) := by decide +kernel
theorem J_MSquareRows_square_d6 : decode J_MSquareRows_square.2.1 6 = .ok (.iload_n 3, 1) := by decide +kernel
theorem J_MSquareRows_square_d7 : decode J_MSquareRows_square.2.1 7 = .ok (.if_icmp .gt 82, 3) := by decide +kernel
theorem J_MSquareRows_square_d10 : decode J_MSquareRows_square.2.1 10 = .ok (.iload_n 3, 1) := by decide +kernel
theorem J_MSquareRows_square_d11 : decode J_MSquareRows_square.2.1 11 = .ok (.ineg, 1) := by decide +kernel
theorem J_MSquareRows_square_d12 : decode J_MSquareRows_square.2.1 12 = .ok (.istore 6, 2) := by decide +kernel
theorem J_MSquareRows_square_d14 : decode J_MSquareRows_square.2.1 14 = .ok (.iload 6, 2) := by decide +kernel
theorem J_MSquareRows_square_d16 : decode J_MSquareRows_square.2.1 16 = .ok (.iload_n 3, 1) := by decide +kernel
theorem J_MSquareRows_square_d17 : decode J_MSquareRows_square.2.1 17 = .ok (.if_icmp .gt 66, 3) := by decide +kernel
theorem J_MSquareRows_square_d20 : decode J_MSquareRows_square.2.1 20 = .ok (.iload 6, 2) := by decide +kernel
theorem J_MSquareRows_square_d22 : decode J_MSquareRows_square.2.1 22 = .ok (.iload 5, 2) := by decide +kernel
theorem J_MSquareRows_square_d24 : decode J_MSquareRows_square.2.1 24 = .ok (.invokestatic 189, 3) := by decide +kernel
theorem J_MSquareRows_square_d27 : decode J_MSquareRows_square.2.1 27 = .ok (.istore 7, 2) := by decide +kernel
theorem J_MSquareRows_square_d29 : decode J_MSquareRows_square.2.1 29 = .ok (.aload_n 0, 1) := by decide +kernel
theorem J_MSquareRows_square_d30 : decode J_MSquareRows_square.2.1 30 = .ok (.iload_n 1, 1) := by decide +kernel
theorem J_MSquareRows_square_d31 : decode J_MSquareRows_square.2.1 31 = .ok (.iload 6, 2) := by decide +kernel
theorem J_MSquareRows_square_d33 : decode J_MSquareRows_square.2.1 33 = .ok (.iadd, 1) := by decide +kernel
theorem J_MSquareRows_square_d34 : decode J_MSquareRows_square.2.1 34 = .ok (.iload_n 2, 1) := by decide +kernel
theorem J_MSquareRows_square_d35 : decode J_MSquareRows_square.2.1 35 = .ok (.iload 5, 2) := by decide +kernel
theorem J_MSquareRows_square_d37 : decode J_MSquareRows_square.2.1 37 = .ok (.iadd, 1) := by decide +kernel
theorem J_MSquareRows_square_d38 : decode J_MSquareRows_square.2.1 38 = .ok (.iload 4, 2) := by decide +kernel
theorem J_MSquareRows_square_d40 : decode J_MSquareRows_square.2.1 40 = .ok (.ifCond .eq 23, 3) := by decide +kernel
theorem J_MSquareRows_square_d43 : decode J_MSquareRows_square.2.1 43 = .ok (.iload 7, 2) := by decide +kernel
theorem J_MSquareRows_square_d45 : decode J_MSquareRows_square.2.1 45 = .ok (.iconst 2, 1) := by decide +kernel
theorem J_MSquareRows_square_d46 : decode J_MSquareRows_square.2.1 46 = .ok (.if_icmp .eq 13, 3) := by decide +kernel
theorem J_MSquareRows_square_d49 : decode J_MSquareRows_square.2.1 49 = .ok (.iload 7, 2) := by decide +kernel
theorem J_MSquareRows_square_d51 : decode J_MSquareRows_square.2.1 51 = .ok (.iconst 4, 1) := by decide +kernel
theorem J_MSquareRows_square_d52 : decode J_MSquareRows_square.2.1 52 = .ok (.if_icmp .eq 7, 3) := by decide +kernel
theorem J_MSquareRows_square_d55 : decode J_MSquareRows_square.2.1 55 = .ok (.iconst 1, 1) := by decide +kernel
theorem J_MSquareRows_square_d56 : decode J_MSquareRows_square.2.1 56 = .ok (.goto 18, 3) := by decide +kernel
theorem J_MSquareRows_square_d59 : decode J_MSquareRows_square.2.1 59 = .ok (.iconst 0, 1) := by decide +kernel
theorem J_MSquareRows_square_d60 : decode J_MSquareRows_square.2.1 60 = .ok (.goto 14, 3) := by decide +kernel
theorem J_MSquareRows_square_d63 : decode J_MSquareRows_square.2.1 63 = .ok (.iload 7, 2) := by decide +kernel
theorem J_MSquareRows_square_d65 : decode J_MSquareRows_square.2.1 65 = .ok (.iconst 1, 1) := by decide +kernel
theorem J_MSquareRows_square_d66 : decode J_MSquareRows_square.2.1 66 = .ok (.if_icmp .eq 7, 3) := by decide +kernel
theorem J_MSquareRows_square_d69 : decode J_MSquareRows_square.2.1 69 = .ok (.iconst 1, 1) := by decide +kernel
theorem J_MSquareRows_square_d70 : decode J_MSquareRows_square.2.1 70 = .ok (.goto 4, 3) := by decide +kernel
theorem J_MSquareRows_square_d73 : decode J_MSquareRows_square.2.1 73 = .ok (.iconst 0, 1) := by decide +kernel
theorem J_MSquareRows_square_d74 : decode J_MSquareRows_square.2.1 74 = .ok (.invokevirtual 185, 3) := by decide +kernel
theorem J_MSquareRows_square_d77 : decode J_MSquareRows_square.2.1 77 = .ok (.iinc 6 1, 3) := by decide +kernel
theorem J_MSquareRows_square_d80 : decode J_MSquareRows_square.2.1 80 = .ok (.goto (-66), 3) := by decide +kernel
theorem J_MSquareRows_square_d83 : decode J_MSquareRows_square.2.1 83 = .ok (.iinc 5 1, 3) := by decide +kernel
theorem J_MSquareRows_square_d86 : decode J_MSquareRows_square.2.1 86 = .ok (.goto (-82), 3) := by decide +kernel
theorem J_MSquareRows_square_d89 : decode J_MSquareRows_square.2.1 89 = .ok (.return_, 1) := by decide +kernel
theorem f_MSquareRows_square_ok {L : Nat} {xs : Nat → Int32} {dep : Nat} {w : Bool} {p0 : Int32} {p1 : Int32} {p2 : Int32} {p3 : Int32} {M : im_M} {Q : im_M → Prop} (hM : lw_S w M) (h : ed (f_MSquareRows_square p0 p1 p2 p3 M) Q) : ia (tb_G L xs) (dep + 2) J_MSquareRows_square (rwV w Q) (0, lv_args 0 [.ref 108, .int p0, .int p1, .int p2, .int p3], [], M) := by
  have hS : im_St (tb_G L xs) (dep + 2) J_MSquareRows_square (ia (tb_G L xs) (dep + 2) J_MSquareRows_square (rwV w Q)) := ia_St
  unfold f_MSquareRows_square at h
  have l0 : im_lk (lv_args 0 [.ref 108, .int p0, .int p1, .int p2, .int p3]) 0 = some (.ref 108) := rfl
  have l1 : im_lk (lv_args 0 [.ref 108, .int p0, .int p1, .int p2, .int p3]) 1 = some (.int p0) := rfl
  have l2 : im_lk (lv_args 0 [.ref 108, .int p0, .int p1, .int p2, .int p3]) 2 = some (.int p1) := rfl
  have l3 : im_lk (lv_args 0 [.ref 108, .int p0, .int p1, .int p2, .int p3]) 3 = some (.int p2) := rfl
  have l4 : im_lk (lv_args 0 [.ref 108, .int p0, .int p1, .int p2, .int p3]) 4 = some (.int p3) := rfl
  refine iq_iload_n hS 1 J_MSquareRows_square_d0 l3 rfl ?_
  refine iq_ineg hS 2 J_MSquareRows_square_d1 rfl ?_
  refine iq_istore hS 4 J_MSquareRows_square_d2 (by decide) rfl ?_
  obtain ⟨Q1, hQ1, h⟩ := bd1_ed h
  have K1 : ∀ (M2 : im_M) (L' : List (Nat × Value)), lw_S w M2 → Q1 M2 → ia (tb_G L xs) (dep + 2) J_MSquareRows_square (rwV w Q) (89, L', [], M2) := by
    intro M2 L' hM2  h
    replace h := hQ1 _ h
    exact iq_ret J_MSquareRows_square_d89 rfl ⟨rfl, hM2, ed_some h⟩
  obtain ⟨r1, hr1, hq1⟩ := h
  obtain ⟨n1, hn1⟩ := lp_n hr1
  have I1 : ∀ (n : Nat) (x3 : Int32) (M4 : im_M) (L' : List (Nat × Value)), lw_S w M4 → im_lk L' 0 = some (.ref 108) → im_lk L' 1 = some (.int p0) → im_lk L' 2 = some (.int p1) → im_lk L' 3 = some (.int p2) → im_lk L' 4 = some (.int p3) → im_lk L' 5 = some (.int x3) → lpn (uc2 (f_MSquareRows_square_L4 p0 p1 p2 p3)) n (x3, M4) = some r1 → ia (tb_G L xs) (dep + 2) J_MSquareRows_square (rwV w Q) (4, L', [], M4) := by
    intro n
    induction n with
    | zero => intro x3 M4 L' hM4 l5 l6 l7 l8 l9 l10 hn; exact (lpn_0 hn).elim
    | succ n ih =>
      intro x3 M4 L' hM4 l5 l6 l7 l8 l9 l10 hn
      have h := lpn_ed2 hn
      unfold f_MSquareRows_square_L4 at h
      refine iq_iload hS 6 J_MSquareRows_square_d4 l10 rfl ?_
      refine iq_iload_n hS 7 J_MSquareRows_square_d6 l8 rfl ?_
      refine iq_icmp_gt hS 10 J_MSquareRows_square_d7 (t := 89) rfl (fun q7 => ?_) rfl (fun q7 => ?_)
      · replace h := ed_pos q7 h
        exact K1 _ _ hM4  (lq_r h hq1)
      · replace h := ed_neg q7 h
        refine iq_iload_n hS 11 J_MSquareRows_square_d10 l8 rfl ?_
        refine iq_ineg hS 12 J_MSquareRows_square_d11 rfl ?_
        refine iq_istore hS 14 J_MSquareRows_square_d12 (by decide) rfl ?_
        obtain ⟨Q11, hQ11, h⟩ := bd1_ed h
        have K11 : ∀ (M12 : im_M) (L' : List (Nat × Value)), lw_S w M12 → im_lk L' 0 = some (.ref 108) → im_lk L' 1 = some (.int p0) → im_lk L' 2 = some (.int p1) → im_lk L' 3 = some (.int p2) → im_lk L' 4 = some (.int p3) → im_lk L' 5 = some (.int x3) → Q11 M12 → ia (tb_G L xs) (dep + 2) J_MSquareRows_square (rwV w Q) (83, L', [], M12) := by
          intro M12 L' hM12 l13 l14 l15 l16 l17 l18 h
          replace h := hQ11 _ h
          refine iq_iincv hS 86 J_MSquareRows_square_d83 (c := 1) (by decide +kernel) l18 (by decide) rfl ?_
          refine iq_goto hS J_MSquareRows_square_d86 (t := 4) rfl ?_
          exact ih _ _ _ hM12 (lk_1r l13 (by decide)) (lk_1i l14 (by decide)) (lk_1i l15 (by decide)) (lk_1i l16 (by decide)) (lk_1i l17 (by decide)) lk_1s (lq_l h)
        obtain ⟨r11, hr11, hq11⟩ := h
        obtain ⟨n11, hn11⟩ := lp_n hr11
        have I11 : ∀ (n : Nat) (x19 : Int32) (M20 : im_M) (L' : List (Nat × Value)), lw_S w M20 → im_lk L' 0 = some (.ref 108) → im_lk L' 1 = some (.int p0) → im_lk L' 2 = some (.int p1) → im_lk L' 3 = some (.int p2) → im_lk L' 4 = some (.int p3) → im_lk L' 5 = some (.int x3) → im_lk L' 6 = some (.int x19) → lpn (uc2 (f_MSquareRows_square_L14 p0 p1 p2 p3 x3)) n (x19, M20) = some r11 → ia (tb_G L xs) (dep + 2) J_MSquareRows_square (rwV w Q) (14, L', [], M20) := by
          intro n
          induction n with
          | zero => intro x19 M20 L' hM20 l21 l22 l23 l24 l25 l26 l27 hn; exact (lpn_0 hn).elim
          | succ n ih =>
            intro x19 M20 L' hM20 l21 l22 l23 l24 l25 l26 l27 hn
            have h := lpn_ed2 hn
            unfold f_MSquareRows_square_L14 at h
            refine iq_iload hS 16 J_MSquareRows_square_d14 l27 rfl ?_
            refine iq_iload_n hS 17 J_MSquareRows_square_d16 l24 rfl ?_
            refine iq_icmp_gt hS 20 J_MSquareRows_square_d17 (t := 83) rfl (fun q17 => ?_) rfl (fun q17 => ?_)
            · replace h := ed_pos q17 h
              exact K11 _ _ hM20 l21 l22 l23 l24 l25 l26 (lq_r h hq11)
            · replace h := ed_neg q17 h
              refine iq_iload hS 22 J_MSquareRows_square_d20 l27 rfl ?_
              refine iq_iload hS 24 J_MSquareRows_square_d22 l26 rfl ?_
              obtain ⟨Q28, hQ28, h⟩ := bd1_ed h
              refine iq_cpI hS 27 J_MSquareRows_square_d24 rfl (pr_stat (vs := [_, _]) lc_16_189 lT_420 rfl rfl (by decide) rfl (Nat.le_of_ble_eq_true rfl) (Nat.le_of_ble_eq_true rfl)) (f_MSquareRows_greater_ok (dep := dep + 1) hM20 h) rfl ?_
              intro x28 h
              replace h := hQ28 _ h
              refine iq_istore hS 29 J_MSquareRows_square_d27 (by decide) rfl ?_
              refine iq_aload_n hS 30 J_MSquareRows_square_d29 (lk_1r l21 (by decide)) rfl ?_
              refine iq_iload_n hS 31 J_MSquareRows_square_d30 (lk_1i l22 (by decide)) rfl ?_
              refine iq_iload hS 33 J_MSquareRows_square_d31 (lk_1i l27 (by decide)) rfl ?_
              refine iq_iadd hS 34 J_MSquareRows_square_d33 rfl ?_
              refine iq_iload_n hS 35 J_MSquareRows_square_d34 (lk_1i l23 (by decide)) rfl ?_
              refine iq_iload hS 37 J_MSquareRows_square_d35 (lk_1i l26 (by decide)) rfl ?_
              refine iq_iadd hS 38 J_MSquareRows_square_d37 rfl ?_
              refine iq_iload hS 40 J_MSquareRows_square_d38 (lk_1i l25 (by decide)) rfl ?_
              have J29 : ∀ (z30 : Int32) (L' : List (Nat × Value)), z30 = ((if p3 = 0 then (if x28 = 1 then 0 else 1) else (if x28 = 2 then 0 else (if x28 = 4 then 0 else 1))) : Int32) → im_lk L' 0 = some (.ref 108) → im_lk L' 1 = some (.int p0) → im_lk L' 2 = some (.int p1) → im_lk L' 3 = some (.int p2) → im_lk L' 4 = some (.int p3) → im_lk L' 5 = some (.int x3) → im_lk L' 6 = some (.int x19) → ia (tb_G L xs) (dep + 2) J_MSquareRows_square (rwV w Q) (74, L', [.int z30, .int (p1 + x3), .int (p0 + x19), .ref 108], M20) := by
                intro z30 L' e31 l32 l33 l34 l35 l36 l37 l38
                subst e31
                obtain ⟨Q39, hQ39, h⟩ := bd1_ed h
                refine iq_cwV hS 77 J_MSquareRows_square_d74 rfl (pr_inst (vs := [_, _, _]) lc_16_185 lT_417 rfl rfl (by decide) (by decide) rfl (Nat.le_of_ble_eq_true rfl) (Nat.le_of_ble_eq_true rfl) (fun _ => Or.inl (pr_b (ka_108 hM20) (by decide) rfl))) (f_MSquareRows_fix_ok (dep := dep + 0) hM20 h) rfl ?_
                intro M39 hM39 h
                replace h := hQ39 _ h
                refine iq_iincv hS 80 J_MSquareRows_square_d77 (c := 1) (by decide +kernel) l38 (by decide) rfl ?_
                refine iq_goto hS J_MSquareRows_square_d80 (t := 14) rfl ?_
                exact ih _ _ _ hM39 (lk_1r l32 (by decide)) (lk_1i l33 (by decide)) (lk_1i l34 (by decide)) (lk_1i l35 (by decide)) (lk_1i l36 (by decide)) (lk_1i l37 (by decide)) lk_1s (lq_l h)
              refine iq_if_eq hS 43 J_MSquareRows_square_d40 (t := 63) rfl (fun q40 => ?_) rfl (fun q40 => ?_)
              · refine iq_iload hS 65 J_MSquareRows_square_d63 lk_1s rfl ?_
                refine iq_iconst hS 66 J_MSquareRows_square_d65 (v := 1) (by decide +kernel) rfl ?_
                refine iq_icmp_eq hS 69 J_MSquareRows_square_d66 (t := 73) rfl (fun q66 => ?_) rfl (fun q66 => ?_)
                · refine iq_iconst hS 74 J_MSquareRows_square_d73 (v := 0) (by decide +kernel) rfl ?_
                  exact J29 _ _ (by simp only [if_pos q40, if_pos q66]) (lk_1r l21 (by decide)) (lk_1i l22 (by decide)) (lk_1i l23 (by decide)) (lk_1i l24 (by decide)) (lk_1i l25 (by decide)) (lk_1i l26 (by decide)) (lk_1i l27 (by decide))
                · refine iq_iconst hS 70 J_MSquareRows_square_d69 (v := 1) (by decide +kernel) rfl ?_
                  refine iq_goto hS J_MSquareRows_square_d70 (t := 74) rfl ?_
                  exact J29 _ _ (by simp only [if_pos q40, if_neg q66]) (lk_1r l21 (by decide)) (lk_1i l22 (by decide)) (lk_1i l23 (by decide)) (lk_1i l24 (by decide)) (lk_1i l25 (by decide)) (lk_1i l26 (by decide)) (lk_1i l27 (by decide))
              · refine iq_iload hS 45 J_MSquareRows_square_d43 lk_1s rfl ?_
                refine iq_iconst hS 46 J_MSquareRows_square_d45 (v := 2) (by decide +kernel) rfl ?_
                refine iq_icmp_eq hS 49 J_MSquareRows_square_d46 (t := 59) rfl (fun q46 => ?_) rfl (fun q46 => ?_)
                · refine iq_iconst hS 60 J_MSquareRows_square_d59 (v := 0) (by decide +kernel) rfl ?_
                  refine iq_goto hS J_MSquareRows_square_d60 (t := 74) rfl ?_
                  exact J29 _ _ (by simp only [if_neg q40, if_pos q46]) (lk_1r l21 (by decide)) (lk_1i l22 (by decide)) (lk_1i l23 (by decide)) (lk_1i l24 (by decide)) (lk_1i l25 (by decide)) (lk_1i l26 (by decide)) (lk_1i l27 (by decide))
                · refine iq_iload hS 51 J_MSquareRows_square_d49 lk_1s rfl ?_
                  refine iq_iconst hS 52 J_MSquareRows_square_d51 (v := 4) (by decide +kernel) rfl ?_
                  refine iq_icmp_eq hS 55 J_MSquareRows_square_d52 (t := 59) rfl (fun q52 => ?_) rfl (fun q52 => ?_)
                  · refine iq_iconst hS 60 J_MSquareRows_square_d59 (v := 0) (by decide +kernel) rfl ?_
                    refine iq_goto hS J_MSquareRows_square_d60 (t := 74) rfl ?_
                    exact J29 _ _ (by simp only [if_neg q40, if_neg q46, if_pos q52]) (lk_1r l21 (by decide)) (lk_1i l22 (by decide)) (lk_1i l23 (by decide)) (lk_1i l24 (by decide)) (lk_1i l25 (by decide)) (lk_1i l26 (by decide)) (lk_1i l27 (by decide))
                  · refine iq_iconst hS 56 J_MSquareRows_square_d55 (v := 1) (by decide +kernel) rfl ?_
                    refine iq_goto hS J_MSquareRows_square_d56 (t := 74) rfl ?_
                    exact J29 _ _ (by simp only [if_neg q40, if_neg q46, if_neg q52]) (lk_1r l21 (by decide)) (lk_1i l22 (by decide)) (lk_1i l23 (by decide)) (lk_1i l24 (by decide)) (lk_1i l25 (by decide)) (lk_1i l26 (by decide)) (lk_1i l27 (by decide))
        exact I11 n11 _ _ _ hM4 (lk_1r l5 (by decide)) (lk_1i l6 (by decide)) (lk_1i l7 (by decide)) (lk_1i l8 (by decide)) (lk_1i l9 (by decide)) (lk_1i l10 (by decide)) lk_1s hn11
  exact I1 n1 _ _ _ hM (lk_1r l0 (by decide)) (lk_1i l1 (by decide)) (lk_1i l2 (by decide)) (lk_1i l3 (by decide)) (lk_1i l4 (by decide)) lk_1s hn1
theorem f_MSquareRows_square_fr {p0 : Int32} {p1 : Int32} {p2 : Int32} {p3 : Int32} {M : im_M} {r : im_M} (h : f_MSquareRows_square p0 p1 p2 p3 M = some r) : fr 15576890575604482885591488987660288 [] M r := by
  replace h : ed (f_MSquareRows_square p0 p1 p2 p3 M) (fun x => x = r) := ⟨r, h, rfl⟩
  unfold f_MSquareRows_square at h
  obtain ⟨Q1, hQ1, h⟩ := bd1_ed h
  have K1 : ∀ (M2 : im_M), fr 15576890575604482885591488987660288 [] M M2 → Q1 M2 → fr 15576890575604482885591488987660288 [] M r := by
    intro M2 hM2 h
    replace h := hQ1 _ h
    exact fr_retV h hM2
  obtain ⟨r1, hr1, hq1⟩ := h
  obtain ⟨n1, hn1⟩ := lp_n hr1
  have I1 : ∀ (n : Nat) (x3 : Int32) (M4 : im_M), fr 15576890575604482885591488987660288 [] M M4 → lpn (uc2 (f_MSquareRows_square_L4 p0 p1 p2 p3)) n (x3, M4) = some r1 → fr 15576890575604482885591488987660288 [] M r := by
    intro n
    induction n with
    | zero => intro x3 M4 hM4 hn; exact (lpn_0 hn).elim
    | succ n ih =>
      intro x3 M4 hM4 hn
      have h := lpn_ed2 hn
      unfold f_MSquareRows_square_L4 at h
      by_cases q7 : p2 < x3
      · replace h := ed_pos q7 h
        exact K1 _ hM4 (lq_r h hq1)
      · replace h := ed_neg q7 h
        obtain ⟨Q5, hQ5, h⟩ := bd1_ed h
        have K5 : ∀ (M6 : im_M), fr 15576890575604482885591488987660288 [] M M6 → Q5 M6 → fr 15576890575604482885591488987660288 [] M r := by
          intro M6 hM6 h
          replace h := hQ5 _ h
          exact ih _ _ hM6 (lq_l h)
        obtain ⟨r5, hr5, hq5⟩ := h
        obtain ⟨n5, hn5⟩ := lp_n hr5
        have I5 : ∀ (n : Nat) (x7 : Int32) (M8 : im_M), fr 15576890575604482885591488987660288 [] M M8 → lpn (uc2 (f_MSquareRows_square_L14 p0 p1 p2 p3 x3)) n (x7, M8) = some r5 → fr 15576890575604482885591488987660288 [] M r := by
          intro n
          induction n with
          | zero => intro x7 M8 hM8 hn; exact (lpn_0 hn).elim
          | succ n ih =>
            intro x7 M8 hM8 hn
            have h := lpn_ed2 hn
            unfold f_MSquareRows_square_L14 at h
            by_cases q17 : p2 < x7
            · replace h := ed_pos q17 h
              exact K5 _ hM8 (lq_r h hq5)
            · replace h := ed_neg q17 h
              obtain ⟨Q9, hQ9, h⟩ := bd1_ed h
              obtain ⟨x9, e9, h⟩ := h
              replace h := hQ9 _ h
              obtain ⟨Q11, hQ11, h⟩ := bd1_ed h
              obtain ⟨M11, e11, h⟩ := h
              replace h := hQ11 _ h
              exact ih _ _ (fr_tr (fr_mono (by decide) (by decide +kernel) (f_MSquareRows_fix_fr e11)) hM8) (lq_l h)
        exact I5 n5 _ _ hM4 hn5
  exact I1 n1 _ _ fr_refl hn1
noncomputable def f_MSquareRows_alignmentAt (p0 : Int32) (p1 : Int32) (M : im_M) : Option (Int32) := bd1 (if ¬ p0 = 32 then gd (¬ (((2 : Int32) * ((p0 / 7) + 2)) - 2) = (0 : Int32)) <| some ((2 : Int32) * (((((4 : Int32) * p0) + ((2 : Int32) * ((p0 / 7) + 2))) + 1) / (((2 : Int32) * ((p0 / 7) + 2)) - 2))) else some 26) fun (y2 : Int32) => if ¬ p1 = 0 then bd1 (f_MSquareRows_sideOf p0 M) fun (x6 : Int32) => some ((x6 - 7) - (y2 * ((((p0 / 7) + 2) - 1) - p1))) else some 6
theorem J_MSquareRows_alignmentAt_d0 : decode J_MSquareRows_alignmentAt.2.1 0 = .ok (.iload_n 0, 1) := by decide +kernel
theorem J_MSquareRows_alignmentAt_d1 : decode J_MSquareRows_alignmentAt.2.1 1 = .ok (.bipush 7, 2) := by decide +kernel
theorem J_MSquareRows_alignmentAt_d3 : decode J_MSquareRows_alignmentAt.2.1 3 = .ok (.idiv, 1) := by decide +kernel
theorem J_MSquareRows_alignmentAt_d4 : decode J_MSquareRows_alignmentAt.2.1 4 = .ok (.iconst 2, 1) := by decide +kernel
theorem J_MSquareRows_alignmentAt_d5 : decode J_MSquareRows_alignmentAt.2.1 5 = .ok (.iadd, 1) := by decide +kernel
theorem J_MSquareRows_alignmentAt_d6 : decode J_MSquareRows_alignmentAt.2.1 6 = .ok (.istore_n 2, 1) := by decide +kernel
theorem J_MSquareRows_alignmentAt_d7 : decode J_MSquareRows_alignmentAt.2.1 7 = .ok (.iload_n 0, 1) := by decide +kernel
theorem J_MSquareRows_alignmentAt_d8 : decode J_MSquareRows_alignmentAt.2.1 8 = .ok (.bipush 32, 2) := by decide +kernel
theorem J_MSquareRows_alignmentAt_d10 : decode J_MSquareRows_alignmentAt.2.1 10 = .ok (.if_icmp .ne 8, 3) := by decide +kernel
theorem J_MSquareRows_alignmentAt_d13 : decode J_MSquareRows_alignmentAt.2.1 13 = .ok (.bipush 26, 2) := by decide +kernel
theorem J_MSquareRows_alignmentAt_d15 : decode J_MSquareRows_alignmentAt.2.1 15 = .ok (.goto 20, 3) := by decide +kernel
theorem J_MSquareRows_alignmentAt_d18 : decode J_MSquareRows_alignmentAt.2.1 18 = .ok (.iconst 2, 1) := by decide +kernel
theorem J_MSquareRows_alignmentAt_d19 : decode J_MSquareRows_alignmentAt.2.1 19 = .ok (.iconst 4, 1) := by decide +kernel
theorem J_MSquareRows_alignmentAt_d20 : decode J_MSquareRows_alignmentAt.2.1 20 = .ok (.iload_n 0, 1) := by decide +kernel
theorem J_MSquareRows_alignmentAt_d21 : decode J_MSquareRows_alignmentAt.2.1 21 = .ok (.imul, 1) := by decide +kernel
theorem J_MSquareRows_alignmentAt_d22 : decode J_MSquareRows_alignmentAt.2.1 22 = .ok (.iconst 2, 1) := by decide +kernel
theorem J_MSquareRows_alignmentAt_d23 : decode J_MSquareRows_alignmentAt.2.1 23 = .ok (.iload_n 2, 1) := by decide +kernel
theorem J_MSquareRows_alignmentAt_d24 : decode J_MSquareRows_alignmentAt.2.1 24 = .ok (.imul, 1) := by decide +kernel
theorem J_MSquareRows_alignmentAt_d25 : decode J_MSquareRows_alignmentAt.2.1 25 = .ok (.iadd, 1) := by decide +kernel
theorem J_MSquareRows_alignmentAt_d26 : decode J_MSquareRows_alignmentAt.2.1 26 = .ok (.iconst 1, 1) := by decide +kernel
theorem J_MSquareRows_alignmentAt_d27 : decode J_MSquareRows_alignmentAt.2.1 27 = .ok (.iadd, 1) := by decide +kernel
theorem J_MSquareRows_alignmentAt_d28 : decode J_MSquareRows_alignmentAt.2.1 28 = .ok (.iconst 2, 1) := by decide +kernel
theorem J_MSquareRows_alignmentAt_d29 : decode J_MSquareRows_alignmentAt.2.1 29 = .ok (.iload_n 2, 1) := by decide +kernel
theorem J_MSquareRows_alignmentAt_d30 : decode J_MSquareRows_alignmentAt.2.1 30 = .ok (.imul, 1) := by decide +kernel
theorem J_MSquareRows_alignmentAt_d31 : decode J_MSquareRows_alignmentAt.2.1 31 = .ok (.iconst 2, 1) := by decide +kernel
theorem J_MSquareRows_alignmentAt_d32 : decode J_MSquareRows_alignmentAt.2.1 32 = .ok (.isub, 1) := by decide +kernel
theorem J_MSquareRows_alignmentAt_d33 : decode J_MSquareRows_alignmentAt.2.1 33 = .ok (.idiv, 1) := by decide +kernel
theorem J_MSquareRows_alignmentAt_d34 : decode J_MSquareRows_alignmentAt.2.1 34 = .ok (.imul, 1) := by decide +kernel
theorem J_MSquareRows_alignmentAt_d35 : decode J_MSquareRows_alignmentAt.2.1 35 = .ok (.istore_n 3, 1) := by decide +kernel
theorem J_MSquareRows_alignmentAt_d36 : decode J_MSquareRows_alignmentAt.2.1 36 = .ok (.iload_n 1, 1) := by decide +kernel
theorem J_MSquareRows_alignmentAt_d37 : decode J_MSquareRows_alignmentAt.2.1 37 = .ok (.ifCond .ne 8, 3) := by decide +kernel
theorem J_MSquareRows_alignmentAt_d40 : decode J_MSquareRows_alignmentAt.2.1 40 = .ok (.bipush 6, 2) := by decide +kernel
theorem J_MSquareRows_alignmentAt_d42 : decode J_MSquareRows_alignmentAt.2.1 42 = .ok (.goto 18, 3) := by decide +kernel
theorem J_MSquareRows_alignmentAt_d45 : decode J_MSquareRows_alignmentAt.2.1 45 = .ok (.iload_n 0, 1) := by decide +kernel
theorem J_MSquareRows_alignmentAt_d46 : decode J_MSquareRows_alignmentAt.2.1 46 = .ok (.invokestatic 169, 3) := by decide +kernel
theorem J_MSquareRows_alignmentAt_d49 : decode J_MSquareRows_alignmentAt.2.1 49 = .ok (.bipush 7, 2) := by decide +kernel
theorem J_MSquareRows_alignmentAt_d51 : decode J_MSquareRows_alignmentAt.2.1 51 = .ok (.isub, 1) := by decide +kernel
theorem J_MSquareRows_alignmentAt_d52 : decode J_MSquareRows_alignmentAt.2.1 52 = .ok (.iload_n 3, 1) := by decide +kernel
theorem J_MSquareRows_alignmentAt_d53 : decode J_MSquareRows_alignmentAt.2.1 53 = .ok (.iload_n 2, 1) := by decide +kernel
theorem J_MSquareRows_alignmentAt_d54 : decode J_MSquareRows_alignmentAt.2.1 54 = .ok (.iconst 1, 1) := by decide +kernel
theorem J_MSquareRows_alignmentAt_d55 : decode J_MSquareRows_alignmentAt.2.1 55 = .ok (.isub, 1) := by decide +kernel
theorem J_MSquareRows_alignmentAt_d56 : decode J_MSquareRows_alignmentAt.2.1 56 = .ok (.iload_n 1, 1) := by decide +kernel
theorem J_MSquareRows_alignmentAt_d57 : decode J_MSquareRows_alignmentAt.2.1 57 = .ok (.isub, 1) := by decide +kernel
theorem J_MSquareRows_alignmentAt_d58 : decode J_MSquareRows_alignmentAt.2.1 58 = .ok (.imul, 1) := by decide +kernel
theorem J_MSquareRows_alignmentAt_d59 : decode J_MSquareRows_alignmentAt.2.1 59 = .ok (.isub, 1) := by decide +kernel
theorem J_MSquareRows_alignmentAt_d60 : decode J_MSquareRows_alignmentAt.2.1 60 = .ok (.ireturn, 1) := by decide +kernel
theorem f_MSquareRows_alignmentAt_ok {L : Nat} {xs : Nat → Int32} {dep : Nat} {w : Bool} {p0 : Int32} {p1 : Int32} {M : im_M} {Q : Int32 → Prop} (hM : lw_S w M) (h : ed (f_MSquareRows_alignmentAt p0 p1 M) Q) : ia (tb_G L xs) (dep + 1) J_MSquareRows_alignmentAt (rpI M Q) (0, lv_args 0 [.int p0, .int p1], [], M) := by
  have hS : im_St (tb_G L xs) (dep + 1) J_MSquareRows_alignmentAt (ia (tb_G L xs) (dep + 1) J_MSquareRows_alignmentAt (rpI M Q)) := ia_St
  unfold f_MSquareRows_alignmentAt at h
  have l0 : im_lk (lv_args 0 [.int p0, .int p1]) 0 = some (.int p0) := rfl
  have l1 : im_lk (lv_args 0 [.int p0, .int p1]) 1 = some (.int p1) := rfl
  refine iq_iload_n hS 1 J_MSquareRows_alignmentAt_d0 l0 rfl ?_
  refine iq_bipush hS 3 J_MSquareRows_alignmentAt_d1 (v := 7) (by decide +kernel) rfl ?_
  refine iq_idiv hS 4 J_MSquareRows_alignmentAt_d3 (by decide) rfl ?_
  refine iq_iconst hS 5 J_MSquareRows_alignmentAt_d4 (v := 2) (by decide +kernel) rfl ?_
  refine iq_iadd hS 6 J_MSquareRows_alignmentAt_d5 rfl ?_
  refine iq_istore_n hS 7 J_MSquareRows_alignmentAt_d6 (by decide) rfl ?_
  refine iq_iload_n hS 8 J_MSquareRows_alignmentAt_d7 (lk_1i l0 (by decide)) rfl ?_
  refine iq_bipush hS 10 J_MSquareRows_alignmentAt_d8 (v := 32) (by decide +kernel) rfl ?_
  obtain ⟨Q1, hQ1, h⟩ := bd1_ed h
  have J1 : ∀ (y2 : Int32) (L' : List (Nat × Value)), im_lk L' 0 = some (.int p0) → im_lk L' 1 = some (.int p1) → im_lk L' 2 = some (.int ((p0 / 7) + 2)) → Q1 y2 → ia (tb_G L xs) (dep + 1) J_MSquareRows_alignmentAt (rpI M Q) (35, L', [.int y2], M) := by
    intro y2 L' l3 l4 l5 h
    replace h := hQ1 _ h
    refine iq_istore_n hS 36 J_MSquareRows_alignmentAt_d35 (by decide) rfl ?_
    refine iq_iload_n hS 37 J_MSquareRows_alignmentAt_d36 (lk_1i l4 (by decide)) rfl ?_
    refine iq_if_ne hS 40 J_MSquareRows_alignmentAt_d37 (t := 45) rfl (fun q37 => ?_) rfl (fun q37 => ?_)
    · replace h := ed_pos q37 h
      refine iq_iload_n hS 46 J_MSquareRows_alignmentAt_d45 (lk_1i l3 (by decide)) rfl ?_
      obtain ⟨Q6, hQ6, h⟩ := bd1_ed h
      refine iq_cpI hS 49 J_MSquareRows_alignmentAt_d46 rfl (pr_stat (vs := [_]) lc_16_169 lT_416 rfl rfl (by decide) rfl (Nat.le_of_ble_eq_true rfl) (Nat.le_of_ble_eq_true rfl)) (f_MSquareRows_sideOf_ok (dep := dep + 0) hM h) rfl ?_
      intro x6 h
      replace h := hQ6 _ h
      refine iq_bipush hS 51 J_MSquareRows_alignmentAt_d49 (v := 7) (by decide +kernel) rfl ?_
      refine iq_isub hS 52 J_MSquareRows_alignmentAt_d51 rfl ?_
      refine iq_iload_n hS 53 J_MSquareRows_alignmentAt_d52 lk_1s rfl ?_
      refine iq_iload_n hS 54 J_MSquareRows_alignmentAt_d53 (lk_1i l5 (by decide)) rfl ?_
      refine iq_iconst hS 55 J_MSquareRows_alignmentAt_d54 (v := 1) (by decide +kernel) rfl ?_
      refine iq_isub hS 56 J_MSquareRows_alignmentAt_d55 rfl ?_
      refine iq_iload_n hS 57 J_MSquareRows_alignmentAt_d56 (lk_1i l4 (by decide)) rfl ?_
      refine iq_isub hS 58 J_MSquareRows_alignmentAt_d57 rfl ?_
      refine iq_imul hS 59 J_MSquareRows_alignmentAt_d58 rfl ?_
      refine iq_isub hS 60 J_MSquareRows_alignmentAt_d59 rfl ?_
      exact iq_iret J_MSquareRows_alignmentAt_d60 rfl rfl ⟨_, rfl, rfl, ed_some h⟩
    · replace h := ed_neg q37 h
      refine iq_bipush hS 42 J_MSquareRows_alignmentAt_d40 (v := 6) (by decide +kernel) rfl ?_
      refine iq_goto hS J_MSquareRows_alignmentAt_d42 (t := 60) rfl ?_
      exact iq_iret J_MSquareRows_alignmentAt_d60 rfl rfl ⟨_, rfl, rfl, ed_some h⟩
  refine iq_icmp_ne hS 13 J_MSquareRows_alignmentAt_d10 (t := 18) rfl (fun q10 => ?_) rfl (fun q10 => ?_)
  · replace h := ed_pos q10 h
    refine iq_iconst hS 19 J_MSquareRows_alignmentAt_d18 (v := 2) (by decide +kernel) rfl ?_
    refine iq_iconst hS 20 J_MSquareRows_alignmentAt_d19 (v := 4) (by decide +kernel) rfl ?_
    refine iq_iload_n hS 21 J_MSquareRows_alignmentAt_d20 (lk_1i l0 (by decide)) rfl ?_
    refine iq_imul hS 22 J_MSquareRows_alignmentAt_d21 rfl ?_
    refine iq_iconst hS 23 J_MSquareRows_alignmentAt_d22 (v := 2) (by decide +kernel) rfl ?_
    refine iq_iload_n hS 24 J_MSquareRows_alignmentAt_d23 lk_1s rfl ?_
    refine iq_imul hS 25 J_MSquareRows_alignmentAt_d24 rfl ?_
    refine iq_iadd hS 26 J_MSquareRows_alignmentAt_d25 rfl ?_
    refine iq_iconst hS 27 J_MSquareRows_alignmentAt_d26 (v := 1) (by decide +kernel) rfl ?_
    refine iq_iadd hS 28 J_MSquareRows_alignmentAt_d27 rfl ?_
    refine iq_iconst hS 29 J_MSquareRows_alignmentAt_d28 (v := 2) (by decide +kernel) rfl ?_
    refine iq_iload_n hS 30 J_MSquareRows_alignmentAt_d29 lk_1s rfl ?_
    refine iq_imul hS 31 J_MSquareRows_alignmentAt_d30 rfl ?_
    refine iq_iconst hS 32 J_MSquareRows_alignmentAt_d31 (v := 2) (by decide +kernel) rfl ?_
    refine iq_isub hS 33 J_MSquareRows_alignmentAt_d32 rfl ?_
    obtain ⟨g33, h⟩ := ed_gd h
    refine iq_idiv hS 34 J_MSquareRows_alignmentAt_d33 g33 rfl ?_
    refine iq_imul hS 35 J_MSquareRows_alignmentAt_d34 rfl ?_
    exact J1 _ _ (lk_1i l0 (by decide)) (lk_1i l1 (by decide)) lk_1s (ed_some h)
  · replace h := ed_neg q10 h
    refine iq_bipush hS 15 J_MSquareRows_alignmentAt_d13 (v := 26) (by decide +kernel) rfl ?_
    refine iq_goto hS J_MSquareRows_alignmentAt_d15 (t := 35) rfl ?_
    exact J1 _ _ (lk_1i l0 (by decide)) (lk_1i l1 (by decide)) lk_1s (ed_some h)
noncomputable def f_MSquareRows_shortWord_L8 (v2 : Int32) (v3 : Int32) (v4 : Int32) (M7 : im_M) (x5 : Int32) (x6 : Int32) : Option ((Int32 × Int32) ⊕ (Int32)) := if x6 < v3 then some (.inr x5) else some (.inl (((if ¬ ((x5 >>> (x6 &&& 31 : Int32) : Int32) &&& 1) = 1 then x5 else (x5 ^^^ (v4 <<< ((x6 - v3) &&& 31 : Int32) : Int32))) : Int32), (x6 + (-1))))
noncomputable def f_MSquareRows_shortWord (p0 : Int32) (p1 : Int32) (p2 : Int32) (M : im_M) : Option (Int32) := bd1 (lp (uc2 (f_MSquareRows_shortWord_L8 p0 p1 p2 M)) ((p0 <<< (p1 &&& 31 : Int32) : Int32), 17)) fun (y9 : Int32) => some ((p0 <<< (p1 &&& 31 : Int32) : Int32) ||| y9)
theorem J_MSquareRows_shortWord_d0 : decode J_MSquareRows_shortWord.2.1 0 = .ok (.iload_n 0, 1) := by decide +kernel
theorem J_MSquareRows_shortWord_d1 : decode J_MSquareRows_shortWord.2.1 1 = .ok (.iload_n 1, 1) := by decide +kernel
theorem J_MSquareRows_shortWord_d2 : decode J_MSquareRows_shortWord.2.1 2 = .ok (.ishl, 1) := by decide +kernel
theorem J_MSquareRows_shortWord_d3 : decode J_MSquareRows_shortWord.2.1 3 = .ok (.istore_n 3, 1) := by decide +kernel
theorem J_MSquareRows_shortWord_d4 : decode J_MSquareRows_shortWord.2.1 4 = .ok (.bipush 17, 2) := by decide +kernel
theorem J_MSquareRows_shortWord_d6 : decode J_MSquareRows_shortWord.2.1 6 = .ok (.istore 4, 2) := by decide +kernel
theorem J_MSquareRows_shortWord_d8 : decode J_MSquareRows_shortWord.2.1 8 = .ok (.iload 4, 2) := by decide +kernel
theorem J_MSquareRows_shortWord_d10 : decode J_MSquareRows_shortWord.2.1 10 = .ok (.iload_n 1, 1) := by decide +kernel
theorem J_MSquareRows_shortWord_d11 : decode J_MSquareRows_shortWord.2.1 11 = .ok (.if_icmp .lt 32, 3) := by decide +kernel
theorem J_MSquareRows_shortWord_d14 : decode J_MSquareRows_shortWord.2.1 14 = .ok (.iload_n 3, 1) := by decide +kernel
theorem J_MSquareRows_shortWord_d15 : decode J_MSquareRows_shortWord.2.1 15 = .ok (.iload 4, 2) := by decide +kernel
theorem J_MSquareRows_shortWord_d17 : decode J_MSquareRows_shortWord.2.1 17 = .ok (.ishr, 1) := by decide +kernel
theorem J_MSquareRows_shortWord_d18 : decode J_MSquareRows_shortWord.2.1 18 = .ok (.iconst 1, 1) := by decide +kernel
theorem J_MSquareRows_shortWord_d19 : decode J_MSquareRows_shortWord.2.1 19 = .ok (.iand, 1) := by decide +kernel
theorem J_MSquareRows_shortWord_d20 : decode J_MSquareRows_shortWord.2.1 20 = .ok (.iconst 1, 1) := by decide +kernel
theorem J_MSquareRows_shortWord_d21 : decode J_MSquareRows_shortWord.2.1 21 = .ok (.if_icmp .ne 14, 3) := by decide +kernel
theorem J_MSquareRows_shortWord_d24 : decode J_MSquareRows_shortWord.2.1 24 = .ok (.iload_n 3, 1) := by decide +kernel
theorem J_MSquareRows_shortWord_d25 : decode J_MSquareRows_shortWord.2.1 25 = .ok (.iload_n 2, 1) := by decide +kernel
theorem J_MSquareRows_shortWord_d26 : decode J_MSquareRows_shortWord.2.1 26 = .ok (.iload 4, 2) := by decide +kernel
theorem J_MSquareRows_shortWord_d28 : decode J_MSquareRows_shortWord.2.1 28 = .ok (.iload_n 1, 1) := by decide +kernel
theorem J_MSquareRows_shortWord_d29 : decode J_MSquareRows_shortWord.2.1 29 = .ok (.isub, 1) := by decide +kernel
theorem J_MSquareRows_shortWord_d30 : decode J_MSquareRows_shortWord.2.1 30 = .ok (.ishl, 1) := by decide +kernel
theorem J_MSquareRows_shortWord_d31 : decode J_MSquareRows_shortWord.2.1 31 = .ok (.ixor, 1) := by decide +kernel
theorem J_MSquareRows_shortWord_d32 : decode J_MSquareRows_shortWord.2.1 32 = .ok (.goto 4, 3) := by decide +kernel
theorem J_MSquareRows_shortWord_d35 : decode J_MSquareRows_shortWord.2.1 35 = .ok (.iload_n 3, 1) := by decide +kernel
theorem J_MSquareRows_shortWord_d36 : decode J_MSquareRows_shortWord.2.1 36 = .ok (.istore_n 3, 1) := by decide +kernel
theorem J_MSquareRows_shortWord_d37 : decode J_MSquareRows_shortWord.2.1 37 = .ok (.iinc 4 (-1), 3) := by decide +kernel
theorem J_MSquareRows_shortWord_d40 : decode J_MSquareRows_shortWord.2.1 40 = .ok (.goto (-32), 3) := by decide +kernel
theorem J_MSquareRows_shortWord_d43 : decode J_MSquareRows_shortWord.2.1 43 = .ok (.iload_n 0, 1) := by decide +kernel
theorem J_MSquareRows_shortWord_d44 : decode J_MSquareRows_shortWord.2.1 44 = .ok (.iload_n 1, 1) := by decide +kernel
theorem J_MSquareRows_shortWord_d45 : decode J_MSquareRows_shortWord.2.1 45 = .ok (.ishl, 1) := by decide +kernel
theorem J_MSquareRows_shortWord_d46 : decode J_MSquareRows_shortWord.2.1 46 = .ok (.iload_n 3, 1) := by decide +kernel
theorem J_MSquareRows_shortWord_d47 : decode J_MSquareRows_shortWord.2.1 47 = .ok (.ior, 1) := by decide +kernel
theorem J_MSquareRows_shortWord_d48 : decode J_MSquareRows_shortWord.2.1 48 = .ok (.ireturn, 1) := by decide +kernel
theorem f_MSquareRows_shortWord_ok {L : Nat} {xs : Nat → Int32} {dep : Nat} {w : Bool} {p0 : Int32} {p1 : Int32} {p2 : Int32} {M : im_M} {Q : Int32 → Prop} (hM : lw_S w M) (h : ed (f_MSquareRows_shortWord p0 p1 p2 M) Q) : ia (tb_G L xs) dep J_MSquareRows_shortWord (rpI M Q) (0, lv_args 0 [.int p0, .int p1, .int p2], [], M) := by
  have hS : im_St (tb_G L xs) dep J_MSquareRows_shortWord (ia (tb_G L xs) dep J_MSquareRows_shortWord (rpI M Q)) := ia_St
  unfold f_MSquareRows_shortWord at h
  have l0 : im_lk (lv_args 0 [.int p0, .int p1, .int p2]) 0 = some (.int p0) := rfl
  have l1 : im_lk (lv_args 0 [.int p0, .int p1, .int p2]) 1 = some (.int p1) := rfl
  have l2 : im_lk (lv_args 0 [.int p0, .int p1, .int p2]) 2 = some (.int p2) := rfl
  refine iq_iload_n hS 1 J_MSquareRows_shortWord_d0 l0 rfl ?_
  refine iq_iload_n hS 2 J_MSquareRows_shortWord_d1 l1 rfl ?_
  refine iq_ishl hS 3 J_MSquareRows_shortWord_d2 rfl ?_
  refine iq_istore_n hS 4 J_MSquareRows_shortWord_d3 (by decide) rfl ?_
  refine iq_bipush hS 6 J_MSquareRows_shortWord_d4 (v := 17) (by decide +kernel) rfl ?_
  refine iq_istore hS 8 J_MSquareRows_shortWord_d6 (by decide) rfl ?_
  obtain ⟨Q1, hQ1, h⟩ := bd1_ed h
  have K1 : ∀ (y2 : Int32) (L' : List (Nat × Value)), im_lk L' 0 = some (.int p0) → im_lk L' 1 = some (.int p1) → im_lk L' 3 = some (.int y2) → Q1 y2 → ia (tb_G L xs) dep J_MSquareRows_shortWord (rpI M Q) (43, L', [], M) := by
    intro y2 L' l3 l4 l5 h
    replace h := hQ1 _ h
    refine iq_iload_n hS 44 J_MSquareRows_shortWord_d43 l3 rfl ?_
    refine iq_iload_n hS 45 J_MSquareRows_shortWord_d44 l4 rfl ?_
    refine iq_ishl hS 46 J_MSquareRows_shortWord_d45 rfl ?_
    refine iq_iload_n hS 47 J_MSquareRows_shortWord_d46 l5 rfl ?_
    refine iq_ior hS 48 J_MSquareRows_shortWord_d47 rfl ?_
    exact iq_iret J_MSquareRows_shortWord_d48 rfl rfl ⟨_, rfl, rfl, ed_some h⟩
  obtain ⟨r1, hr1, hq1⟩ := h
  obtain ⟨n1, hn1⟩ := lp_n hr1
  have I1 : ∀ (n : Nat) (x6 : Int32) (x7 : Int32) (L' : List (Nat × Value)), im_lk L' 0 = some (.int p0) → im_lk L' 1 = some (.int p1) → im_lk L' 2 = some (.int p2) → im_lk L' 3 = some (.int x6) → im_lk L' 4 = some (.int x7) → lpn (uc2 (f_MSquareRows_shortWord_L8 p0 p1 p2 M)) n (x6, x7) = some r1 → ia (tb_G L xs) dep J_MSquareRows_shortWord (rpI M Q) (8, L', [], M) := by
    intro n
    induction n with
    | zero => intro x6 x7 L' l8 l9 l10 l11 l12 hn; exact (lpn_0 hn).elim
    | succ n ih =>
      intro x6 x7 L' l8 l9 l10 l11 l12 hn
      have h := lpn_ed2 hn
      unfold f_MSquareRows_shortWord_L8 at h
      refine iq_iload hS 10 J_MSquareRows_shortWord_d8 l12 rfl ?_
      refine iq_iload_n hS 11 J_MSquareRows_shortWord_d10 l9 rfl ?_
      refine iq_icmp_lt hS 14 J_MSquareRows_shortWord_d11 (t := 43) rfl (fun q11 => ?_) rfl (fun q11 => ?_)
      · replace h := ed_pos q11 h
        exact K1 _ _ l8 l9 l11 (lq_r h hq1)
      · replace h := ed_neg q11 h
        refine iq_iload_n hS 15 J_MSquareRows_shortWord_d14 l11 rfl ?_
        refine iq_iload hS 17 J_MSquareRows_shortWord_d15 l12 rfl ?_
        refine iq_ishr hS 18 J_MSquareRows_shortWord_d17 rfl ?_
        refine iq_iconst hS 19 J_MSquareRows_shortWord_d18 (v := 1) (by decide +kernel) rfl ?_
        refine iq_iand hS 20 J_MSquareRows_shortWord_d19 rfl ?_
        refine iq_iconst hS 21 J_MSquareRows_shortWord_d20 (v := 1) (by decide +kernel) rfl ?_
        have J13 : ∀ (z14 : Int32) (L' : List (Nat × Value)), z14 = ((if ¬ ((x6 >>> (x7 &&& 31 : Int32) : Int32) &&& 1) = 1 then x6 else (x6 ^^^ (p2 <<< ((x7 - p1) &&& 31 : Int32) : Int32))) : Int32) → im_lk L' 0 = some (.int p0) → im_lk L' 1 = some (.int p1) → im_lk L' 2 = some (.int p2) → im_lk L' 4 = some (.int x7) → ia (tb_G L xs) dep J_MSquareRows_shortWord (rpI M Q) (36, L', [.int z14], M) := by
          intro z14 L' e15 l16 l17 l18 l19
          subst e15
          refine iq_istore_n hS 37 J_MSquareRows_shortWord_d36 (by decide) rfl ?_
          refine iq_iincv hS 40 J_MSquareRows_shortWord_d37 (c := (-1)) (by decide +kernel) (lk_1i l19 (by decide)) (by decide) rfl ?_
          refine iq_goto hS J_MSquareRows_shortWord_d40 (t := 8) rfl ?_
          exact ih _ _ _ (lk_1i (lk_1i l16 (by decide)) (by decide)) (lk_1i (lk_1i l17 (by decide)) (by decide)) (lk_1i (lk_1i l18 (by decide)) (by decide)) (lk_1i lk_1s (by decide)) lk_1s (lq_l h)
        refine iq_icmp_ne hS 24 J_MSquareRows_shortWord_d21 (t := 35) rfl (fun q21 => ?_) rfl (fun q21 => ?_)
        · refine iq_iload_n hS 36 J_MSquareRows_shortWord_d35 l11 rfl ?_
          exact J13 _ _ (by simp only [if_pos q21]) l8 l9 l10 l12
        · refine iq_iload_n hS 25 J_MSquareRows_shortWord_d24 l11 rfl ?_
          refine iq_iload_n hS 26 J_MSquareRows_shortWord_d25 l10 rfl ?_
          refine iq_iload hS 28 J_MSquareRows_shortWord_d26 l12 rfl ?_
          refine iq_iload_n hS 29 J_MSquareRows_shortWord_d28 l9 rfl ?_
          refine iq_isub hS 30 J_MSquareRows_shortWord_d29 rfl ?_
          refine iq_ishl hS 31 J_MSquareRows_shortWord_d30 rfl ?_
          refine iq_ixor hS 32 J_MSquareRows_shortWord_d31 rfl ?_
          refine iq_goto hS J_MSquareRows_shortWord_d32 (t := 36) rfl ?_
          exact J13 _ _ (by simp only [if_neg q21]) l8 l9 l10 l12
  exact I1 n1 _ _ _ (lk_1i (lk_1i l0 (by decide)) (by decide)) (lk_1i (lk_1i l1 (by decide)) (by decide)) (lk_1i (lk_1i l2 (by decide)) (by decide)) (lk_1i lk_1s (by decide)) lk_1s hn1
noncomputable def f_MSquareRows_formWord (p0 : Int32) (M : im_M) : Option (Int32) := bd1 (f_MSquareRows_shortWord p0 10 1335 M) fun (x1 : Int32) => some (x1 ^^^ 21522)
theorem J_MSquareRows_formWord_d0 : decode J_MSquareRows_formWord.2.1 0 = .ok (.iload_n 0, 1) := by decide +kernel
theorem J_MSquareRows_formWord_d1 : decode J_MSquareRows_formWord.2.1 1 = .ok (.bipush 10, 2) := by decide +kernel
theorem J_MSquareRows_formWord_d3 : decode J_MSquareRows_formWord.2.1 3 = .ok (.sipush 1335, 3) := by decide +kernel
theorem J_MSquareRows_formWord_d6 : decode J_MSquareRows_formWord.2.1 6 = .ok (.invokestatic 172, 3) := by decide +kernel
theorem J_MSquareRows_formWord_d9 : decode J_MSquareRows_formWord.2.1 9 = .ok (.sipush 21522, 3) := by decide +kernel
theorem J_MSquareRows_formWord_d12 : decode J_MSquareRows_formWord.2.1 12 = .ok (.ixor, 1) := by decide +kernel
theorem J_MSquareRows_formWord_d13 : decode J_MSquareRows_formWord.2.1 13 = .ok (.ireturn, 1) := by decide +kernel
theorem f_MSquareRows_formWord_ok {L : Nat} {xs : Nat → Int32} {dep : Nat} {w : Bool} {p0 : Int32} {M : im_M} {Q : Int32 → Prop} (hM : lw_S w M) (h : ed (f_MSquareRows_formWord p0 M) Q) : ia (tb_G L xs) (dep + 1) J_MSquareRows_formWord (rpI M Q) (0, lv_args 0 [.int p0], [], M) := by
  have hS : im_St (tb_G L xs) (dep + 1) J_MSquareRows_formWord (ia (tb_G L xs) (dep + 1) J_MSquareRows_formWord (rpI M Q)) := ia_St
  unfold f_MSquareRows_formWord at h
  have l0 : im_lk (lv_args 0 [.int p0]) 0 = some (.int p0) := rfl
  refine iq_iload_n hS 1 J_MSquareRows_formWord_d0 l0 rfl ?_
  refine iq_bipush hS 3 J_MSquareRows_formWord_d1 (v := 10) (by decide +kernel) rfl ?_
  refine iq_sipush hS 6 J_MSquareRows_formWord_d3 (v := 1335) (by decide +kernel) rfl ?_
  obtain ⟨Q1, hQ1, h⟩ := bd1_ed h
  refine iq_cpI hS 9 J_MSquareRows_formWord_d6 rfl (pr_stat (vs := [_, _, _]) lc_16_172 lT_424 rfl rfl (by decide) rfl (Nat.le_of_ble_eq_true rfl) (Nat.le_of_ble_eq_true rfl)) (f_MSquareRows_shortWord_ok (dep := dep + 0) hM h) rfl ?_
  intro x1 h
  replace h := hQ1 _ h
  refine iq_sipush hS 12 J_MSquareRows_formWord_d9 (v := 21522) (by decide +kernel) rfl ?_
  refine iq_ixor hS 13 J_MSquareRows_formWord_d12 rfl ?_
  exact iq_iret J_MSquareRows_formWord_d13 rfl rfl ⟨_, rfl, rfl, ed_some h⟩
noncomputable def f_MSquareRows_formX (p0 : Int32) (p1 : Int32) (p2 : Int32) (M : im_M) : Option (Int32) := if p1 = 0 then if 8 ≤ p0 then if ¬ p0 = 8 then some ((14 : Int32) - p0) else some 7 else some 8 else if 8 ≤ p0 then some 8 else some ((p2 - 1) - p0)
theorem J_MSquareRows_formX_d0 : decode J_MSquareRows_formX.2.1 0 = .ok (.iload_n 1, 1) := by decide +kernel
theorem J_MSquareRows_formX_d1 : decode J_MSquareRows_formX.2.1 1 = .ok (.ifCond .eq 20, 3) := by decide +kernel
theorem J_MSquareRows_formX_d4 : decode J_MSquareRows_formX.2.1 4 = .ok (.iload_n 0, 1) := by decide +kernel
theorem J_MSquareRows_formX_d5 : decode J_MSquareRows_formX.2.1 5 = .ok (.bipush 8, 2) := by decide +kernel
theorem J_MSquareRows_formX_d7 : decode J_MSquareRows_formX.2.1 7 = .ok (.if_icmp .ge 11, 3) := by decide +kernel
theorem J_MSquareRows_formX_d10 : decode J_MSquareRows_formX.2.1 10 = .ok (.iload_n 2, 1) := by decide +kernel
theorem J_MSquareRows_formX_d11 : decode J_MSquareRows_formX.2.1 11 = .ok (.iconst 1, 1) := by decide +kernel
theorem J_MSquareRows_formX_d12 : decode J_MSquareRows_formX.2.1 12 = .ok (.isub, 1) := by decide +kernel
theorem J_MSquareRows_formX_d13 : decode J_MSquareRows_formX.2.1 13 = .ok (.iload_n 0, 1) := by decide +kernel
theorem J_MSquareRows_formX_d14 : decode J_MSquareRows_formX.2.1 14 = .ok (.isub, 1) := by decide +kernel
theorem J_MSquareRows_formX_d15 : decode J_MSquareRows_formX.2.1 15 = .ok (.goto 5, 3) := by decide +kernel
theorem J_MSquareRows_formX_d18 : decode J_MSquareRows_formX.2.1 18 = .ok (.bipush 8, 2) := by decide +kernel
theorem J_MSquareRows_formX_d20 : decode J_MSquareRows_formX.2.1 20 = .ok (.ireturn, 1) := by decide +kernel
theorem J_MSquareRows_formX_d21 : decode J_MSquareRows_formX.2.1 21 = .ok (.iload_n 0, 1) := by decide +kernel
theorem J_MSquareRows_formX_d22 : decode J_MSquareRows_formX.2.1 22 = .ok (.bipush 8, 2) := by decide +kernel
theorem J_MSquareRows_formX_d24 : decode J_MSquareRows_formX.2.1 24 = .ok (.if_icmp .ge 8, 3) := by decide +kernel
theorem J_MSquareRows_formX_d27 : decode J_MSquareRows_formX.2.1 27 = .ok (.bipush 8, 2) := by decide +kernel
theorem J_MSquareRows_formX_d29 : decode J_MSquareRows_formX.2.1 29 = .ok (.goto 18, 3) := by decide +kernel
theorem J_MSquareRows_formX_d32 : decode J_MSquareRows_formX.2.1 32 = .ok (.iload_n 0, 1) := by decide +kernel
theorem J_MSquareRows_formX_d33 : decode J_MSquareRows_formX.2.1 33 = .ok (.bipush 8, 2) := by decide +kernel
theorem J_MSquareRows_formX_d35 : decode J_MSquareRows_formX.2.1 35 = .ok (.if_icmp .ne 8, 3) := by decide +kernel
theorem J_MSquareRows_formX_d38 : decode J_MSquareRows_formX.2.1 38 = .ok (.bipush 7, 2) := by decide +kernel
theorem J_MSquareRows_formX_d40 : decode J_MSquareRows_formX.2.1 40 = .ok (.goto 7, 3) := by decide +kernel
theorem J_MSquareRows_formX_d43 : decode J_MSquareRows_formX.2.1 43 = .ok (.bipush 14, 2) := by decide +kernel
theorem J_MSquareRows_formX_d45 : decode J_MSquareRows_formX.2.1 45 = .ok (.iload_n 0, 1) := by decide +kernel
theorem J_MSquareRows_formX_d46 : decode J_MSquareRows_formX.2.1 46 = .ok (.isub, 1) := by decide +kernel
theorem J_MSquareRows_formX_d47 : decode J_MSquareRows_formX.2.1 47 = .ok (.ireturn, 1) := by decide +kernel
theorem f_MSquareRows_formX_ok {L : Nat} {xs : Nat → Int32} {dep : Nat} {w : Bool} {p0 : Int32} {p1 : Int32} {p2 : Int32} {M : im_M} {Q : Int32 → Prop} (hM : lw_S w M) (h : ed (f_MSquareRows_formX p0 p1 p2 M) Q) : ia (tb_G L xs) dep J_MSquareRows_formX (rpI M Q) (0, lv_args 0 [.int p0, .int p1, .int p2], [], M) := by
  have hS : im_St (tb_G L xs) dep J_MSquareRows_formX (ia (tb_G L xs) dep J_MSquareRows_formX (rpI M Q)) := ia_St
  unfold f_MSquareRows_formX at h
  have l0 : im_lk (lv_args 0 [.int p0, .int p1, .int p2]) 0 = some (.int p0) := rfl
  have l1 : im_lk (lv_args 0 [.int p0, .int p1, .int p2]) 1 = some (.int p1) := rfl
  have l2 : im_lk (lv_args 0 [.int p0, .int p1, .int p2]) 2 = some (.int p2) := rfl
  refine iq_iload_n hS 1 J_MSquareRows_formX_d0 l1 rfl ?_
  refine iq_if_eq hS 4 J_MSquareRows_formX_d1 (t := 21) rfl (fun q1 => ?_) rfl (fun q1 => ?_)
  · replace h := ed_pos q1 h
    refine iq_iload_n hS 22 J_MSquareRows_formX_d21 l0 rfl ?_
    refine iq_bipush hS 24 J_MSquareRows_formX_d22 (v := 8) (by decide +kernel) rfl ?_
    refine iq_icmp_ge hS 27 J_MSquareRows_formX_d24 (t := 32) rfl (fun q24 => ?_) rfl (fun q24 => ?_)
    · replace h := ed_pos q24 h
      refine iq_iload_n hS 33 J_MSquareRows_formX_d32 l0 rfl ?_
      refine iq_bipush hS 35 J_MSquareRows_formX_d33 (v := 8) (by decide +kernel) rfl ?_
      refine iq_icmp_ne hS 38 J_MSquareRows_formX_d35 (t := 43) rfl (fun q35 => ?_) rfl (fun q35 => ?_)
      · replace h := ed_pos q35 h
        refine iq_bipush hS 45 J_MSquareRows_formX_d43 (v := 14) (by decide +kernel) rfl ?_
        refine iq_iload_n hS 46 J_MSquareRows_formX_d45 l0 rfl ?_
        refine iq_isub hS 47 J_MSquareRows_formX_d46 rfl ?_
        exact iq_iret J_MSquareRows_formX_d47 rfl rfl ⟨_, rfl, rfl, ed_some h⟩
      · replace h := ed_neg q35 h
        refine iq_bipush hS 40 J_MSquareRows_formX_d38 (v := 7) (by decide +kernel) rfl ?_
        refine iq_goto hS J_MSquareRows_formX_d40 (t := 47) rfl ?_
        exact iq_iret J_MSquareRows_formX_d47 rfl rfl ⟨_, rfl, rfl, ed_some h⟩
    · replace h := ed_neg q24 h
      refine iq_bipush hS 29 J_MSquareRows_formX_d27 (v := 8) (by decide +kernel) rfl ?_
      refine iq_goto hS J_MSquareRows_formX_d29 (t := 47) rfl ?_
      exact iq_iret J_MSquareRows_formX_d47 rfl rfl ⟨_, rfl, rfl, ed_some h⟩
  · replace h := ed_neg q1 h
    refine iq_iload_n hS 5 J_MSquareRows_formX_d4 l0 rfl ?_
    refine iq_bipush hS 7 J_MSquareRows_formX_d5 (v := 8) (by decide +kernel) rfl ?_
    refine iq_icmp_ge hS 10 J_MSquareRows_formX_d7 (t := 18) rfl (fun q7 => ?_) rfl (fun q7 => ?_)
    · replace h := ed_pos q7 h
      refine iq_bipush hS 20 J_MSquareRows_formX_d18 (v := 8) (by decide +kernel) rfl ?_
      exact iq_iret J_MSquareRows_formX_d20 rfl rfl ⟨_, rfl, rfl, ed_some h⟩
    · replace h := ed_neg q7 h
      refine iq_iload_n hS 11 J_MSquareRows_formX_d10 l2 rfl ?_
      refine iq_iconst hS 12 J_MSquareRows_formX_d11 (v := 1) (by decide +kernel) rfl ?_
      refine iq_isub hS 13 J_MSquareRows_formX_d12 rfl ?_
      refine iq_iload_n hS 14 J_MSquareRows_formX_d13 l0 rfl ?_
      refine iq_isub hS 15 J_MSquareRows_formX_d14 rfl ?_
      refine iq_goto hS J_MSquareRows_formX_d15 (t := 20) rfl ?_
      exact iq_iret J_MSquareRows_formX_d20 rfl rfl ⟨_, rfl, rfl, ed_some h⟩
noncomputable def f_MSquareRows_formY (p0 : Int32) (p1 : Int32) (p2 : Int32) (M : im_M) : Option (Int32) := if p1 = 0 then if 6 ≤ p0 then if 8 ≤ p0 then some 8 else some (p0 + 1) else some p0 else if 8 ≤ p0 then some ((p2 - 15) + p0) else some 8
theorem J_MSquareRows_formY_d0 : decode J_MSquareRows_formY.2.1 0 = .ok (.iload_n 1, 1) := by decide +kernel
theorem J_MSquareRows_formY_d1 : decode J_MSquareRows_formY.2.1 1 = .ok (.ifCond .eq 21, 3) := by decide +kernel
theorem J_MSquareRows_formY_d4 : decode J_MSquareRows_formY.2.1 4 = .ok (.iload_n 0, 1) := by decide +kernel
theorem J_MSquareRows_formY_d5 : decode J_MSquareRows_formY.2.1 5 = .ok (.bipush 8, 2) := by decide +kernel
theorem J_MSquareRows_formY_d7 : decode J_MSquareRows_formY.2.1 7 = .ok (.if_icmp .ge 8, 3) := by decide +kernel
theorem J_MSquareRows_formY_d10 : decode J_MSquareRows_formY.2.1 10 = .ok (.bipush 8, 2) := by decide +kernel
theorem J_MSquareRows_formY_d12 : decode J_MSquareRows_formY.2.1 12 = .ok (.goto 9, 3) := by decide +kernel
theorem J_MSquareRows_formY_d15 : decode J_MSquareRows_formY.2.1 15 = .ok (.iload_n 2, 1) := by decide +kernel
theorem J_MSquareRows_formY_d16 : decode J_MSquareRows_formY.2.1 16 = .ok (.bipush 15, 2) := by decide +kernel
theorem J_MSquareRows_formY_d18 : decode J_MSquareRows_formY.2.1 18 = .ok (.isub, 1) := by decide +kernel
theorem J_MSquareRows_formY_d19 : decode J_MSquareRows_formY.2.1 19 = .ok (.iload_n 0, 1) := by decide +kernel
theorem J_MSquareRows_formY_d20 : decode J_MSquareRows_formY.2.1 20 = .ok (.iadd, 1) := by decide +kernel
theorem J_MSquareRows_formY_d21 : decode J_MSquareRows_formY.2.1 21 = .ok (.ireturn, 1) := by decide +kernel
theorem J_MSquareRows_formY_d22 : decode J_MSquareRows_formY.2.1 22 = .ok (.iload_n 0, 1) := by decide +kernel
theorem J_MSquareRows_formY_d23 : decode J_MSquareRows_formY.2.1 23 = .ok (.bipush 6, 2) := by decide +kernel
theorem J_MSquareRows_formY_d25 : decode J_MSquareRows_formY.2.1 25 = .ok (.if_icmp .ge 7, 3) := by decide +kernel
theorem J_MSquareRows_formY_d28 : decode J_MSquareRows_formY.2.1 28 = .ok (.iload_n 0, 1) := by decide +kernel
theorem J_MSquareRows_formY_d29 : decode J_MSquareRows_formY.2.1 29 = .ok (.goto 17, 3) := by decide +kernel
theorem J_MSquareRows_formY_d32 : decode J_MSquareRows_formY.2.1 32 = .ok (.iload_n 0, 1) := by decide +kernel
theorem J_MSquareRows_formY_d33 : decode J_MSquareRows_formY.2.1 33 = .ok (.bipush 8, 2) := by decide +kernel
theorem J_MSquareRows_formY_d35 : decode J_MSquareRows_formY.2.1 35 = .ok (.if_icmp .ge 9, 3) := by decide +kernel
theorem J_MSquareRows_formY_d38 : decode J_MSquareRows_formY.2.1 38 = .ok (.iload_n 0, 1) := by decide +kernel
theorem J_MSquareRows_formY_d39 : decode J_MSquareRows_formY.2.1 39 = .ok (.iconst 1, 1) := by decide +kernel
theorem J_MSquareRows_formY_d40 : decode J_MSquareRows_formY.2.1 40 = .ok (.iadd, 1) := by decide +kernel
theorem J_MSquareRows_formY_d41 : decode J_MSquareRows_formY.2.1 41 = .ok (.goto 5, 3) := by decide +kernel
theorem J_MSquareRows_formY_d44 : decode J_MSquareRows_formY.2.1 44 = .ok (.bipush 8, 2) := by decide +kernel
theorem J_MSquareRows_formY_d46 : decode J_MSquareRows_formY.2.1 46 = .ok (.ireturn, 1) := by decide +kernel
theorem f_MSquareRows_formY_ok {L : Nat} {xs : Nat → Int32} {dep : Nat} {w : Bool} {p0 : Int32} {p1 : Int32} {p2 : Int32} {M : im_M} {Q : Int32 → Prop} (hM : lw_S w M) (h : ed (f_MSquareRows_formY p0 p1 p2 M) Q) : ia (tb_G L xs) dep J_MSquareRows_formY (rpI M Q) (0, lv_args 0 [.int p0, .int p1, .int p2], [], M) := by
  have hS : im_St (tb_G L xs) dep J_MSquareRows_formY (ia (tb_G L xs) dep J_MSquareRows_formY (rpI M Q)) := ia_St
  unfold f_MSquareRows_formY at h
  have l0 : im_lk (lv_args 0 [.int p0, .int p1, .int p2]) 0 = some (.int p0) := rfl
  have l1 : im_lk (lv_args 0 [.int p0, .int p1, .int p2]) 1 = some (.int p1) := rfl
  have l2 : im_lk (lv_args 0 [.int p0, .int p1, .int p2]) 2 = some (.int p2) := rfl
  refine iq_iload_n hS 1 J_MSquareRows_formY_d0 l1 rfl ?_
  refine iq_if_eq hS 4 J_MSquareRows_formY_d1 (t := 22) rfl (fun q1 => ?_) rfl (fun q1 => ?_)
  · replace h := ed_pos q1 h
    refine iq_iload_n hS 23 J_MSquareRows_formY_d22 l0 rfl ?_
    refine iq_bipush hS 25 J_MSquareRows_formY_d23 (v := 6) (by decide +kernel) rfl ?_
    refine iq_icmp_ge hS 28 J_MSquareRows_formY_d25 (t := 32) rfl (fun q25 => ?_) rfl (fun q25 => ?_)
    · replace h := ed_pos q25 h
      refine iq_iload_n hS 33 J_MSquareRows_formY_d32 l0 rfl ?_
      refine iq_bipush hS 35 J_MSquareRows_formY_d33 (v := 8) (by decide +kernel) rfl ?_
      refine iq_icmp_ge hS 38 J_MSquareRows_formY_d35 (t := 44) rfl (fun q35 => ?_) rfl (fun q35 => ?_)
      · replace h := ed_pos q35 h
        refine iq_bipush hS 46 J_MSquareRows_formY_d44 (v := 8) (by decide +kernel) rfl ?_
        exact iq_iret J_MSquareRows_formY_d46 rfl rfl ⟨_, rfl, rfl, ed_some h⟩
      · replace h := ed_neg q35 h
        refine iq_iload_n hS 39 J_MSquareRows_formY_d38 l0 rfl ?_
        refine iq_iconst hS 40 J_MSquareRows_formY_d39 (v := 1) (by decide +kernel) rfl ?_
        refine iq_iadd hS 41 J_MSquareRows_formY_d40 rfl ?_
        refine iq_goto hS J_MSquareRows_formY_d41 (t := 46) rfl ?_
        exact iq_iret J_MSquareRows_formY_d46 rfl rfl ⟨_, rfl, rfl, ed_some h⟩
    · replace h := ed_neg q25 h
      refine iq_iload_n hS 29 J_MSquareRows_formY_d28 l0 rfl ?_
      refine iq_goto hS J_MSquareRows_formY_d29 (t := 46) rfl ?_
      exact iq_iret J_MSquareRows_formY_d46 rfl rfl ⟨_, rfl, rfl, ed_some h⟩
  · replace h := ed_neg q1 h
    refine iq_iload_n hS 5 J_MSquareRows_formY_d4 l0 rfl ?_
    refine iq_bipush hS 7 J_MSquareRows_formY_d5 (v := 8) (by decide +kernel) rfl ?_
    refine iq_icmp_ge hS 10 J_MSquareRows_formY_d7 (t := 15) rfl (fun q7 => ?_) rfl (fun q7 => ?_)
    · replace h := ed_pos q7 h
      refine iq_iload_n hS 16 J_MSquareRows_formY_d15 l2 rfl ?_
      refine iq_bipush hS 18 J_MSquareRows_formY_d16 (v := 15) (by decide +kernel) rfl ?_
      refine iq_isub hS 19 J_MSquareRows_formY_d18 rfl ?_
      refine iq_iload_n hS 20 J_MSquareRows_formY_d19 l0 rfl ?_
      refine iq_iadd hS 21 J_MSquareRows_formY_d20 rfl ?_
      exact iq_iret J_MSquareRows_formY_d21 rfl rfl ⟨_, rfl, rfl, ed_some h⟩
    · replace h := ed_neg q7 h
      refine iq_bipush hS 12 J_MSquareRows_formY_d10 (v := 8) (by decide +kernel) rfl ?_
      refine iq_goto hS J_MSquareRows_formY_d12 (t := 21) rfl ?_
      exact iq_iret J_MSquareRows_formY_d21 rfl rfl ⟨_, rfl, rfl, ed_some h⟩
noncomputable def f_MSquareRows_layForm_L7 (v3 : Int32) (x4 : Int32) (M5 : im_M) : Option ((Int32 × im_M) ⊕ (im_M)) := if 15 ≤ x4 then some (.inr M5) else bd1 (f_MSquareRows_formX x4 0 (im_i M5 108 8) M5) fun (x6 : Int32) => bd1 (f_MSquareRows_formY x4 0 (im_i M5 108 8) M5) fun (x7 : Int32) => bd1 (f_MSquareRows_fix x6 x7 ((if ¬ ((v3 >>> (x4 &&& 31 : Int32) : Int32) &&& 1) = 1 then 0 else 1) : Int32) M5) fun (M9 : im_M) => bd1 (f_MSquareRows_formX x4 1 (im_i M9 108 8) M9) fun (x10 : Int32) => bd1 (f_MSquareRows_formY x4 1 (im_i M9 108 8) M9) fun (x11 : Int32) => bd1 (f_MSquareRows_fix x10 x11 ((if ¬ ((v3 >>> (x4 &&& 31 : Int32) : Int32) &&& 1) = 1 then 0 else 1) : Int32) M9) fun (M13 : im_M) => some (.inl ((x4 + 1), M13))
noncomputable def f_MSquareRows_layForm (p0 : Int32) (M : im_M) : Option (im_M) := bd1 (f_MSquareRows_formWord p0 M) fun (x1 : Int32) => bd1 (lp (uc2 (f_MSquareRows_layForm_L7 x1)) (0, M)) fun (M14 : im_M) => some M14
theorem J_MSquareRows_layForm_d0 : decode J_MSquareRows_layForm.2.1 0 = .ok (.iload_n 1, 1) := by decide +kernel
theorem J_MSquareRows_layForm_d1 : decode J_MSquareRows_layForm.2.1 1 = .ok (.invokestatic 175, 3) := by decide +kernel
theorem J_MSquareRows_layForm_d4 : decode J_MSquareRows_layForm.2.1 4 = .ok (.istore_n 2, 1) := by decide +kernel
theorem J_MSquareRows_layForm_d5 : decode J_MSquareRows_layForm.2.1 5 = .ok (.iconst 0, 1) := by decide +kernel
theorem J_MSquareRows_layForm_d6 : decode J_MSquareRows_layForm.2.1 6 = .ok (.istore_n 3, 1) := by decide +kernel
theorem J_MSquareRows_layForm_d7 : decode J_MSquareRows_layForm.2.1 7 = .ok (.iload_n 3, 1) := by decide +kernel
theorem J_MSquareRows_layForm_d8 : decode J_MSquareRows_layForm.2.1 8 = .ok (.bipush 15, 2) := by decide +kernel
theorem J_MSquareRows_layForm_d10 : decode J_MSquareRows_layForm.2.1 10 = .ok (.if_icmp .ge 81, 3) := by decide +kernel
theorem J_MSquareRows_layForm_d13 : decode J_MSquareRows_layForm.2.1 13 = .ok (.aload_n 0, 1) := by decide +kernel
theorem J_MSquareRows_layForm_d14 : decode J_MSquareRows_layForm.2.1 14 = .ok (.iload_n 3, 1) := by decide +kernel
theorem J_MSquareRows_layForm_d15 : decode J_MSquareRows_layForm.2.1 15 = .ok (.iconst 0, 1) := by decide +kernel
theorem J_MSquareRows_layForm_d16 : decode J_MSquareRows_layForm.2.1 16 = .ok (.aload_n 0, 1) := by decide +kernel
theorem J_MSquareRows_layForm_d17 : decode J_MSquareRows_layForm.2.1 17 = .ok (.getfield 163, 3) := by decide +kernel
theorem J_MSquareRows_layForm_d20 : decode J_MSquareRows_layForm.2.1 20 = .ok (.invokestatic 178, 3) := by decide +kernel
theorem J_MSquareRows_layForm_d23 : decode J_MSquareRows_layForm.2.1 23 = .ok (.iload_n 3, 1) := by decide +kernel
theorem J_MSquareRows_layForm_d24 : decode J_MSquareRows_layForm.2.1 24 = .ok (.iconst 0, 1) := by decide +kernel
theorem J_MSquareRows_layForm_d25 : decode J_MSquareRows_layForm.2.1 25 = .ok (.aload_n 0, 1) := by decide +kernel
theorem J_MSquareRows_layForm_d26 : decode J_MSquareRows_layForm.2.1 26 = .ok (.getfield 163, 3) := by decide +kernel
theorem J_MSquareRows_layForm_d29 : decode J_MSquareRows_layForm.2.1 29 = .ok (.invokestatic 182, 3) := by decide +kernel
theorem J_MSquareRows_layForm_d32 : decode J_MSquareRows_layForm.2.1 32 = .ok (.iload_n 2, 1) := by decide +kernel
theorem J_MSquareRows_layForm_d33 : decode J_MSquareRows_layForm.2.1 33 = .ok (.iload_n 3, 1) := by decide +kernel
theorem J_MSquareRows_layForm_d34 : decode J_MSquareRows_layForm.2.1 34 = .ok (.ishr, 1) := by decide +kernel
theorem J_MSquareRows_layForm_d35 : decode J_MSquareRows_layForm.2.1 35 = .ok (.iconst 1, 1) := by decide +kernel
theorem J_MSquareRows_layForm_d36 : decode J_MSquareRows_layForm.2.1 36 = .ok (.iand, 1) := by decide +kernel
theorem J_MSquareRows_layForm_d37 : decode J_MSquareRows_layForm.2.1 37 = .ok (.iconst 1, 1) := by decide +kernel
theorem J_MSquareRows_layForm_d38 : decode J_MSquareRows_layForm.2.1 38 = .ok (.if_icmp .ne 7, 3) := by decide +kernel
theorem J_MSquareRows_layForm_d41 : decode J_MSquareRows_layForm.2.1 41 = .ok (.iconst 1, 1) := by decide +kernel
theorem J_MSquareRows_layForm_d42 : decode J_MSquareRows_layForm.2.1 42 = .ok (.goto 4, 3) := by decide +kernel
theorem J_MSquareRows_layForm_d45 : decode J_MSquareRows_layForm.2.1 45 = .ok (.iconst 0, 1) := by decide +kernel
theorem J_MSquareRows_layForm_d46 : decode J_MSquareRows_layForm.2.1 46 = .ok (.invokevirtual 185, 3) := by decide +kernel
theorem J_MSquareRows_layForm_d49 : decode J_MSquareRows_layForm.2.1 49 = .ok (.aload_n 0, 1) := by decide +kernel
theorem J_MSquareRows_layForm_d50 : decode J_MSquareRows_layForm.2.1 50 = .ok (.iload_n 3, 1) := by decide +kernel
theorem J_MSquareRows_layForm_d51 : decode J_MSquareRows_layForm.2.1 51 = .ok (.iconst 1, 1) := by decide +kernel
theorem J_MSquareRows_layForm_d52 : decode J_MSquareRows_layForm.2.1 52 = .ok (.aload_n 0, 1) := by decide +kernel
theorem J_MSquareRows_layForm_d53 : decode J_MSquareRows_layForm.2.1 53 = .ok (.getfield 163, 3) := by decide +kernel
theorem J_MSquareRows_layForm_d56 : decode J_MSquareRows_layForm.2.1 56 = .ok (.invokestatic 178, 3) := by decide +kernel
theorem J_MSquareRows_layForm_d59 : decode J_MSquareRows_layForm.2.1 59 = .ok (.iload_n 3, 1) := by decide +kernel
theorem J_MSquareRows_layForm_d60 : decode J_MSquareRows_layForm.2.1 60 = .ok (.iconst 1, 1) := by decide +kernel
theorem J_MSquareRows_layForm_d61 : decode J_MSquareRows_layForm.2.1 61 = .ok (.aload_n 0, 1) := by decide +kernel
theorem J_MSquareRows_layForm_d62 : decode J_MSquareRows_layForm.2.1 62 = .ok (.getfield 163, 3) := by decide +kernel
theorem J_MSquareRows_layForm_d65 : decode J_MSquareRows_layForm.2.1 65 = .ok (.invokestatic 182, 3) := by decide +kernel
theorem J_MSquareRows_layForm_d68 : decode J_MSquareRows_layForm.2.1 68 = .ok (.iload_n 2, 1) := by decide +kernel
theorem J_MSquareRows_layForm_d69 : decode J_MSquareRows_layForm.2.1 69 = .ok (.iload_n 3, 1) := by decide +kernel
theorem J_MSquareRows_layForm_d70 : decode J_MSquareRows_layForm.2.1 70 = .ok (.ishr, 1) := by decide +kernel
theorem J_MSquareRows_layForm_d71 : decode J_MSquareRows_layForm.2.1 71 = .ok (.iconst 1, 1) := by decide +kernel
theorem J_MSquareRows_layForm_d72 : decode J_MSquareRows_layForm.2.1 72 = .ok (.iand, 1) := by decide +kernel
theorem J_MSquareRows_layForm_d73 : decode J_MSquareRows_layForm.2.1 73 = .ok (.iconst 1, 1) := by decide +kernel
theorem J_MSquareRows_layForm_d74 : decode J_MSquareRows_layForm.2.1 74 = .ok (.if_icmp .ne 7, 3) := by decide +kernel
theorem J_MSquareRows_layForm_d77 : decode J_MSquareRows_layForm.2.1 77 = .ok (.iconst 1, 1) := by decide +kernel
theorem J_MSquareRows_layForm_d78 : decode J_MSquareRows_layForm.2.1 78 = .ok (.goto 4, 3) := by decide +kernel
theorem J_MSquareRows_layForm_d81 : decode J_MSquareRows_layForm.2.1 81 = .ok (.iconst 0, 1) := by decide +kernel
theorem J_MSquareRows_layForm_d82 : decode J_MSquareRows_layForm.2.1 82 = .ok (.invokevirtual 185, 3) := by decide +kernel
theorem J_MSquareRows_layForm_d85 : decode J_MSquareRows_layForm.2.1 85 = .ok (.iinc 3 1, 3) := by decide +kernel
theorem J_MSquareRows_layForm_d88 : decode J_MSquareRows_layForm.2.1 88 = .ok (.goto (-81), 3) := by decide +kernel
theorem J_MSquareRows_layForm_d91 : decode J_MSquareRows_layForm.2.1 91 = .ok (.return_, 1) := by decide +kernel
theorem f_MSquareRows_layForm_ok {L : Nat} {xs : Nat → Int32} {dep : Nat} {w : Bool} {p0 : Int32} {M : im_M} {Q : im_M → Prop} (hM : lw_S w M) (h : ed (f_MSquareRows_layForm p0 M) Q) : ia (tb_G L xs) (dep + 2) J_MSquareRows_layForm (rwV w Q) (0, lv_args 0 [.ref 108, .int p0], [], M) := by
  have hS : im_St (tb_G L xs) (dep + 2) J_MSquareRows_layForm (ia (tb_G L xs) (dep + 2) J_MSquareRows_layForm (rwV w Q)) := ia_St
  unfold f_MSquareRows_layForm at h
  have l0 : im_lk (lv_args 0 [.ref 108, .int p0]) 0 = some (.ref 108) := rfl
  have l1 : im_lk (lv_args 0 [.ref 108, .int p0]) 1 = some (.int p0) := rfl
  refine iq_iload_n hS 1 J_MSquareRows_layForm_d0 l1 rfl ?_
  obtain ⟨Q1, hQ1, h⟩ := bd1_ed h
  refine iq_cpI hS 4 J_MSquareRows_layForm_d1 rfl (pr_stat (vs := [_]) lc_16_175 lT_423 rfl rfl (by decide) rfl (Nat.le_of_ble_eq_true rfl) (Nat.le_of_ble_eq_true rfl)) (f_MSquareRows_formWord_ok (dep := dep + 0) hM h) rfl ?_
  intro x1 h
  replace h := hQ1 _ h
  refine iq_istore_n hS 5 J_MSquareRows_layForm_d4 (by decide) rfl ?_
  refine iq_iconst hS 6 J_MSquareRows_layForm_d5 (v := 0) (by decide +kernel) rfl ?_
  refine iq_istore_n hS 7 J_MSquareRows_layForm_d6 (by decide) rfl ?_
  obtain ⟨Q2, hQ2, h⟩ := bd1_ed h
  have K2 : ∀ (M3 : im_M) (L' : List (Nat × Value)), lw_S w M3 → Q2 M3 → ia (tb_G L xs) (dep + 2) J_MSquareRows_layForm (rwV w Q) (91, L', [], M3) := by
    intro M3 L' hM3  h
    replace h := hQ2 _ h
    exact iq_ret J_MSquareRows_layForm_d91 rfl ⟨rfl, hM3, ed_some h⟩
  obtain ⟨r2, hr2, hq2⟩ := h
  obtain ⟨n2, hn2⟩ := lp_n hr2
  have I2 : ∀ (n : Nat) (x4 : Int32) (M5 : im_M) (L' : List (Nat × Value)), lw_S w M5 → im_lk L' 0 = some (.ref 108) → im_lk L' 2 = some (.int x1) → im_lk L' 3 = some (.int x4) → lpn (uc2 (f_MSquareRows_layForm_L7 x1)) n (x4, M5) = some r2 → ia (tb_G L xs) (dep + 2) J_MSquareRows_layForm (rwV w Q) (7, L', [], M5) := by
    intro n
    induction n with
    | zero => intro x4 M5 L' hM5 l6 l7 l8 hn; exact (lpn_0 hn).elim
    | succ n ih =>
      intro x4 M5 L' hM5 l6 l7 l8 hn
      have h := lpn_ed2 hn
      unfold f_MSquareRows_layForm_L7 at h
      refine iq_iload_n hS 8 J_MSquareRows_layForm_d7 l8 rfl ?_
      refine iq_bipush hS 10 J_MSquareRows_layForm_d8 (v := 15) (by decide +kernel) rfl ?_
      refine iq_icmp_ge hS 13 J_MSquareRows_layForm_d10 (t := 91) rfl (fun q10 => ?_) rfl (fun q10 => ?_)
      · replace h := ed_pos q10 h
        exact K2 _ _ hM5  (lq_r h hq2)
      · replace h := ed_neg q10 h
        refine iq_aload_n hS 14 J_MSquareRows_layForm_d13 l6 rfl ?_
        refine iq_iload_n hS 15 J_MSquareRows_layForm_d14 l8 rfl ?_
        refine iq_iconst hS 16 J_MSquareRows_layForm_d15 (v := 0) (by decide +kernel) rfl ?_
        refine iq_aload_n hS 17 J_MSquareRows_layForm_d16 l6 rfl ?_
        refine iq_getI hS 20 J_MSquareRows_layForm_d17 lf_16_163 (Or.inl rfl) (ka_108 hM5) rfl ?_
        obtain ⟨Q9, hQ9, h⟩ := bd1_ed h
        refine iq_cpI hS 23 J_MSquareRows_layForm_d20 rfl (pr_stat (vs := [_, _, _]) lc_16_178 lT_425 rfl rfl (by decide) rfl (Nat.le_of_ble_eq_true rfl) (Nat.le_of_ble_eq_true rfl)) (f_MSquareRows_formX_ok (dep := dep + 1) hM5 h) rfl ?_
        intro x9 h
        replace h := hQ9 _ h
        refine iq_iload_n hS 24 J_MSquareRows_layForm_d23 l8 rfl ?_
        refine iq_iconst hS 25 J_MSquareRows_layForm_d24 (v := 0) (by decide +kernel) rfl ?_
        refine iq_aload_n hS 26 J_MSquareRows_layForm_d25 l6 rfl ?_
        refine iq_getI hS 29 J_MSquareRows_layForm_d26 lf_16_163 (Or.inl rfl) (ka_108 hM5) rfl ?_
        obtain ⟨Q10, hQ10, h⟩ := bd1_ed h
        refine iq_cpI hS 32 J_MSquareRows_layForm_d29 rfl (pr_stat (vs := [_, _, _]) lc_16_182 lT_426 rfl rfl (by decide) rfl (Nat.le_of_ble_eq_true rfl) (Nat.le_of_ble_eq_true rfl)) (f_MSquareRows_formY_ok (dep := dep + 1) hM5 h) rfl ?_
        intro x10 h
        replace h := hQ10 _ h
        refine iq_iload_n hS 33 J_MSquareRows_layForm_d32 l7 rfl ?_
        refine iq_iload_n hS 34 J_MSquareRows_layForm_d33 l8 rfl ?_
        refine iq_ishr hS 35 J_MSquareRows_layForm_d34 rfl ?_
        refine iq_iconst hS 36 J_MSquareRows_layForm_d35 (v := 1) (by decide +kernel) rfl ?_
        refine iq_iand hS 37 J_MSquareRows_layForm_d36 rfl ?_
        refine iq_iconst hS 38 J_MSquareRows_layForm_d37 (v := 1) (by decide +kernel) rfl ?_
        have J11 : ∀ (z12 : Int32) (L' : List (Nat × Value)), z12 = ((if ¬ ((x1 >>> (x4 &&& 31 : Int32) : Int32) &&& 1) = 1 then 0 else 1) : Int32) → im_lk L' 0 = some (.ref 108) → im_lk L' 2 = some (.int x1) → im_lk L' 3 = some (.int x4) → ia (tb_G L xs) (dep + 2) J_MSquareRows_layForm (rwV w Q) (46, L', [.int z12, .int x10, .int x9, .ref 108], M5) := by
          intro z12 L' e13 l14 l15 l16
          subst e13
          obtain ⟨Q17, hQ17, h⟩ := bd1_ed h
          refine iq_cwV hS 49 J_MSquareRows_layForm_d46 rfl (pr_inst (vs := [_, _, _]) lc_16_185 lT_417 rfl rfl (by decide) (by decide) rfl (Nat.le_of_ble_eq_true rfl) (Nat.le_of_ble_eq_true rfl) (fun _ => Or.inl (pr_b (ka_108 hM5) (by decide) rfl))) (f_MSquareRows_fix_ok (dep := dep + 0) hM5 h) rfl ?_
          intro M17 hM17 h
          replace h := hQ17 _ h
          refine iq_aload_n hS 50 J_MSquareRows_layForm_d49 l14 rfl ?_
          refine iq_iload_n hS 51 J_MSquareRows_layForm_d50 l16 rfl ?_
          refine iq_iconst hS 52 J_MSquareRows_layForm_d51 (v := 1) (by decide +kernel) rfl ?_
          refine iq_aload_n hS 53 J_MSquareRows_layForm_d52 l14 rfl ?_
          refine iq_getI hS 56 J_MSquareRows_layForm_d53 lf_16_163 (Or.inl rfl) (ka_108 hM17) rfl ?_
          obtain ⟨Q18, hQ18, h⟩ := bd1_ed h
          refine iq_cpI hS 59 J_MSquareRows_layForm_d56 rfl (pr_stat (vs := [_, _, _]) lc_16_178 lT_425 rfl rfl (by decide) rfl (Nat.le_of_ble_eq_true rfl) (Nat.le_of_ble_eq_true rfl)) (f_MSquareRows_formX_ok (dep := dep + 1) hM17 h) rfl ?_
          intro x18 h
          replace h := hQ18 _ h
          refine iq_iload_n hS 60 J_MSquareRows_layForm_d59 l16 rfl ?_
          refine iq_iconst hS 61 J_MSquareRows_layForm_d60 (v := 1) (by decide +kernel) rfl ?_
          refine iq_aload_n hS 62 J_MSquareRows_layForm_d61 l14 rfl ?_
          refine iq_getI hS 65 J_MSquareRows_layForm_d62 lf_16_163 (Or.inl rfl) (ka_108 hM17) rfl ?_
          obtain ⟨Q19, hQ19, h⟩ := bd1_ed h
          refine iq_cpI hS 68 J_MSquareRows_layForm_d65 rfl (pr_stat (vs := [_, _, _]) lc_16_182 lT_426 rfl rfl (by decide) rfl (Nat.le_of_ble_eq_true rfl) (Nat.le_of_ble_eq_true rfl)) (f_MSquareRows_formY_ok (dep := dep + 1) hM17 h) rfl ?_
          intro x19 h
          replace h := hQ19 _ h
          refine iq_iload_n hS 69 J_MSquareRows_layForm_d68 l15 rfl ?_
          refine iq_iload_n hS 70 J_MSquareRows_layForm_d69 l16 rfl ?_
          refine iq_ishr hS 71 J_MSquareRows_layForm_d70 rfl ?_
          refine iq_iconst hS 72 J_MSquareRows_layForm_d71 (v := 1) (by decide +kernel) rfl ?_
          refine iq_iand hS 73 J_MSquareRows_layForm_d72 rfl ?_
          refine iq_iconst hS 74 J_MSquareRows_layForm_d73 (v := 1) (by decide +kernel) rfl ?_
          have J20 : ∀ (z21 : Int32) (L' : List (Nat × Value)), z21 = ((if ¬ ((x1 >>> (x4 &&& 31 : Int32) : Int32) &&& 1) = 1 then 0 else 1) : Int32) → im_lk L' 0 = some (.ref 108) → im_lk L' 2 = some (.int x1) → im_lk L' 3 = some (.int x4) → ia (tb_G L xs) (dep + 2) J_MSquareRows_layForm (rwV w Q) (82, L', [.int z21, .int x19, .int x18, .ref 108], M17) := by
            intro z21 L' e22 l23 l24 l25
            subst e22
            obtain ⟨Q26, hQ26, h⟩ := bd1_ed h
            refine iq_cwV hS 85 J_MSquareRows_layForm_d82 rfl (pr_inst (vs := [_, _, _]) lc_16_185 lT_417 rfl rfl (by decide) (by decide) rfl (Nat.le_of_ble_eq_true rfl) (Nat.le_of_ble_eq_true rfl) (fun _ => Or.inl (pr_b (ka_108 hM17) (by decide) rfl))) (f_MSquareRows_fix_ok (dep := dep + 0) hM17 h) rfl ?_
            intro M26 hM26 h
            replace h := hQ26 _ h
            refine iq_iincv hS 88 J_MSquareRows_layForm_d85 (c := 1) (by decide +kernel) l25 (by decide) rfl ?_
            refine iq_goto hS J_MSquareRows_layForm_d88 (t := 7) rfl ?_
            exact ih _ _ _ hM26 (lk_1r l23 (by decide)) (lk_1i l24 (by decide)) lk_1s (lq_l h)
          refine iq_icmp_ne hS 77 J_MSquareRows_layForm_d74 (t := 81) rfl (fun q74 => ?_) rfl (fun q74 => ?_)
          · refine iq_iconst hS 82 J_MSquareRows_layForm_d81 (v := 0) (by decide +kernel) rfl ?_
            exact J20 _ _ (by simp only [if_pos q74]) l14 l15 l16
          · refine iq_iconst hS 78 J_MSquareRows_layForm_d77 (v := 1) (by decide +kernel) rfl ?_
            refine iq_goto hS J_MSquareRows_layForm_d78 (t := 82) rfl ?_
            exact J20 _ _ (by simp only [if_neg q74]) l14 l15 l16
        refine iq_icmp_ne hS 41 J_MSquareRows_layForm_d38 (t := 45) rfl (fun q38 => ?_) rfl (fun q38 => ?_)
        · refine iq_iconst hS 46 J_MSquareRows_layForm_d45 (v := 0) (by decide +kernel) rfl ?_
          exact J11 _ _ (by simp only [if_pos q38]) l6 l7 l8
        · refine iq_iconst hS 42 J_MSquareRows_layForm_d41 (v := 1) (by decide +kernel) rfl ?_
          refine iq_goto hS J_MSquareRows_layForm_d42 (t := 46) rfl ?_
          exact J11 _ _ (by simp only [if_neg q38]) l6 l7 l8
  exact I2 n2 _ _ _ hM (lk_1r (lk_1r l0 (by decide)) (by decide)) (lk_1i lk_1s (by decide)) lk_1s hn2
theorem f_MSquareRows_layForm_fr {p0 : Int32} {M : im_M} {r : im_M} (h : f_MSquareRows_layForm p0 M = some r) : fr 15576890575604482885591488987660288 [] M r := by
  replace h : ed (f_MSquareRows_layForm p0 M) (fun x => x = r) := ⟨r, h, rfl⟩
  unfold f_MSquareRows_layForm at h
  obtain ⟨Q1, hQ1, h⟩ := bd1_ed h
  obtain ⟨x1, e1, h⟩ := h
  replace h := hQ1 _ h
  obtain ⟨Q2, hQ2, h⟩ := bd1_ed h
  have K2 : ∀ (M3 : im_M), fr 15576890575604482885591488987660288 [] M M3 → Q2 M3 → fr 15576890575604482885591488987660288 [] M r := by
    intro M3 hM3 h
    replace h := hQ2 _ h
    exact fr_retV h hM3
  obtain ⟨r2, hr2, hq2⟩ := h
  obtain ⟨n2, hn2⟩ := lp_n hr2
  have I2 : ∀ (n : Nat) (x4 : Int32) (M5 : im_M), fr 15576890575604482885591488987660288 [] M M5 → lpn (uc2 (f_MSquareRows_layForm_L7 x1)) n (x4, M5) = some r2 → fr 15576890575604482885591488987660288 [] M r := by
    intro n
    induction n with
    | zero => intro x4 M5 hM5 hn; exact (lpn_0 hn).elim
    | succ n ih =>
      intro x4 M5 hM5 hn
      have h := lpn_ed2 hn
      unfold f_MSquareRows_layForm_L7 at h
      by_cases q10 : 15 ≤ x4
      · replace h := ed_pos q10 h
        exact K2 _ hM5 (lq_r h hq2)
      · replace h := ed_neg q10 h
        obtain ⟨Q6, hQ6, h⟩ := bd1_ed h
        obtain ⟨x6, e6, h⟩ := h
        replace h := hQ6 _ h
        obtain ⟨Q7, hQ7, h⟩ := bd1_ed h
        obtain ⟨x7, e7, h⟩ := h
        replace h := hQ7 _ h
        obtain ⟨Q9, hQ9, h⟩ := bd1_ed h
        obtain ⟨M9, e9, h⟩ := h
        replace h := hQ9 _ h
        obtain ⟨Q10, hQ10, h⟩ := bd1_ed h
        obtain ⟨x10, e10, h⟩ := h
        replace h := hQ10 _ h
        obtain ⟨Q11, hQ11, h⟩ := bd1_ed h
        obtain ⟨x11, e11, h⟩ := h
        replace h := hQ11 _ h
        obtain ⟨Q13, hQ13, h⟩ := bd1_ed h
        obtain ⟨M13, e13, h⟩ := h
        replace h := hQ13 _ h
        exact ih _ _ (fr_tr (fr_mono (by decide) (by decide +kernel) (f_MSquareRows_fix_fr e13)) (fr_tr (fr_mono (by decide) (by decide +kernel) (f_MSquareRows_fix_fr e9)) hM5)) (lq_l h)
  exact I2 n2 _ _ fr_refl hn2
noncomputable def f_MSquareRows_frame_L10 (v3 : Int32) (x4 : Int32) (M5 : im_M) : Option ((Int32 × im_M) ⊕ (im_M)) := if 31329 ≤ x4 then some (.inr M5) else gd (inb x4 31329) <| gd (inb x4 31329) <| some (.inl ((x4 + 1), (im_setI (im_setI M5 112 (Int32.toNatClampNeg x4) 0) 113 (Int32.toNatClampNeg x4) 0)))
noncomputable def f_MSquareRows_frame_L41 (v8 : Int32) (x9 : Int32) (M10 : im_M) : Option ((Int32 × im_M) ⊕ (im_M)) := if (im_i M10 108 8) ≤ x9 then some (.inr M10) else bd1 (f_MSquareRows_fix x9 6 ((if ¬ (x9 - x9 / 2 * 2) = 0 then 0 else 1) : Int32) M10) fun (M12 : im_M) => bd1 (f_MSquareRows_fix 6 x9 ((if ¬ (x9 - x9 / 2 * 2) = 0 then 0 else 1) : Int32) M12) fun (M14 : im_M) => some (.inl ((x9 + 1), M14))
noncomputable def f_MSquareRows_frame_L147 (v25 : Int32) (v26 : Int32) (v27 : Int32) (x28 : Int32) (M29 : im_M) : Option ((Int32 × im_M) ⊕ (im_M)) := if v26 ≤ x28 then some (.inr M29) else bd1 (if ¬ ((if ¬ v27 = 0 then (if ¬ v27 = (v26 - 1) then 0 else (if ¬ x28 = 0 then 0 else 1)) else (if x28 = 0 then 1 else (if x28 = (v26 - 1) then 1 else (if ¬ v27 = (v26 - 1) then 0 else (if ¬ x28 = 0 then 0 else 1))))) : Int32) = 0 then some M29 else bd1 (f_MSquareRows_alignmentAt v25 v27 M29) fun (x32 : Int32) => bd1 (f_MSquareRows_alignmentAt v25 x28 M29) fun (x33 : Int32) => bd1 (f_MSquareRows_square x32 x33 2 0 M29) fun (M34 : im_M) => some M34) fun (M35 : im_M) => some (.inl ((x28 + 1), M35))
noncomputable def f_MSquareRows_frame_L134 (v20 : Int32) (v21 : Int32) (x22 : Int32) (M23 : im_M) : Option ((Int32 × im_M) ⊕ (im_M)) := if v21 ≤ x22 then some (.inr M23) else if v20 ≤ 1 then some (.inr M23) else bd1 (lp (uc2 (f_MSquareRows_frame_L147 v20 v21 x22)) (0, M23)) fun (M41 : im_M) => some (.inl ((x22 + 1), M41))
noncomputable def f_MSquareRows_frame_L255 (v47 : Int32) (v48 : Int32) (x49 : Int32) (M50 : im_M) : Option ((Int32 × im_M) ⊕ (im_M)) := if 18 ≤ x49 then some (.inr M50) else if v47 ≤ 6 then some (.inr M50) else bd1 (f_MSquareRows_fix (((im_i M50 108 8) - 11) + (x49 - x49 / 3 * 3)) (x49 / 3) ((if ¬ ((v48 >>> (x49 &&& 31 : Int32) : Int32) &&& 1) = 1 then 0 else 1) : Int32) M50) fun (M52 : im_M) => bd1 (f_MSquareRows_fix (x49 / 3) (((im_i M52 108 8) - 11) + (x49 - x49 / 3 * 3)) ((if ¬ ((v48 >>> (x49 &&& 31 : Int32) : Int32) &&& 1) = 1 then 0 else 1) : Int32) M52) fun (M54 : im_M) => some (.inl ((x49 + 1), M54))
noncomputable def f_MSquareRows_frame (p0 : Int32) (M : im_M) : Option (im_M) := bd1 (f_MSquareRows_sideOf p0 M) fun (x1 : Int32) => bd1 (lp (uc2 (f_MSquareRows_frame_L10 p0)) (0, (im_setI M 108 8 x1))) fun (M6 : im_M) => bd1 (lp (uc2 (f_MSquareRows_frame_L41 p0)) (0, M6)) fun (M15 : im_M) => bd1 (f_MSquareRows_square 3 3 4 1 M15) fun (M16 : im_M) => bd1 (f_MSquareRows_square ((im_i M16 108 8) - 4) 3 4 1 M16) fun (M17 : im_M) => bd1 (f_MSquareRows_square 3 ((im_i M17 108 8) - 4) 4 1 M17) fun (M18 : im_M) => bd1 (lp (uc2 (f_MSquareRows_frame_L134 p0 ((p0 / 7) + 2))) (0, M18)) fun (M42 : im_M) => bd1 (f_MSquareRows_layForm 0 M42) fun (M43 : im_M) => bd1 (f_MSquareRows_fix 8 ((im_i M43 108 8) - 8) 1 M43) fun (M44 : im_M) => bd1 (f_MSquareRows_shortWord p0 12 7973 M44) fun (x45 : Int32) => bd1 (lp (uc2 (f_MSquareRows_frame_L255 p0 x45)) (0, M44)) fun (M55 : im_M) => some M55
theorem J_MSquareRows_frame_d0 : decode J_MSquareRows_frame.2.1 0 = .ok (.aload_n 0, 1) := by decide +kernel
theorem J_MSquareRows_frame_d1 : decode J_MSquareRows_frame.2.1 1 = .ok (.iload_n 1, 1) := by decide +kernel
theorem J_MSquareRows_frame_d2 : decode J_MSquareRows_frame.2.1 2 = .ok (.invokestatic 169, 3) := by decide +kernel
theorem J_MSquareRows_frame_d5 : decode J_MSquareRows_frame.2.1 5 = .ok (.putfield 163, 3) := by decide +kernel
theorem J_MSquareRows_frame_d8 : decode J_MSquareRows_frame.2.1 8 = .ok (.iconst 0, 1) := by decide +kernel
theorem J_MSquareRows_frame_d9 : decode J_MSquareRows_frame.2.1 9 = .ok (.istore_n 2, 1) := by decide +kernel
theorem J_MSquareRows_frame_d10 : decode J_MSquareRows_frame.2.1 10 = .ok (.iload_n 2, 1) := by decide +kernel
theorem J_MSquareRows_frame_d11 : decode J_MSquareRows_frame.2.1 11 = .ok (.aload_n 0, 1) := by decide +kernel
theorem J_MSquareRows_frame_d12 : decode J_MSquareRows_frame.2.1 12 = .ok (.getfield 19, 3) := by decide +kernel
theorem J_MSquareRows_frame_d15 : decode J_MSquareRows_frame.2.1 15 = .ok (.arraylength, 1) := by decide +kernel
theorem J_MSquareRows_frame_d16 : decode J_MSquareRows_frame.2.1 16 = .ok (.if_icmp .ge 23, 3) := by decide +kernel
theorem J_MSquareRows_frame_d19 : decode J_MSquareRows_frame.2.1 19 = .ok (.aload_n 0, 1) := by decide +kernel
theorem J_MSquareRows_frame_d20 : decode J_MSquareRows_frame.2.1 20 = .ok (.getfield 19, 3) := by decide +kernel
theorem J_MSquareRows_frame_d23 : decode J_MSquareRows_frame.2.1 23 = .ok (.iload_n 2, 1) := by decide +kernel
theorem J_MSquareRows_frame_d24 : decode J_MSquareRows_frame.2.1 24 = .ok (.iconst 0, 1) := by decide +kernel
theorem J_MSquareRows_frame_d25 : decode J_MSquareRows_frame.2.1 25 = .ok (.iastore, 1) := by decide +kernel
theorem J_MSquareRows_frame_d26 : decode J_MSquareRows_frame.2.1 26 = .ok (.aload_n 0, 1) := by decide +kernel
theorem J_MSquareRows_frame_d27 : decode J_MSquareRows_frame.2.1 27 = .ok (.getfield 22, 3) := by decide +kernel
theorem J_MSquareRows_frame_d30 : decode J_MSquareRows_frame.2.1 30 = .ok (.iload_n 2, 1) := by decide +kernel
theorem J_MSquareRows_frame_d31 : decode J_MSquareRows_frame.2.1 31 = .ok (.iconst 0, 1) := by decide +kernel
theorem J_MSquareRows_frame_d32 : decode J_MSquareRows_frame.2.1 32 = .ok (.iastore, 1) := by decide +kernel
theorem J_MSquareRows_frame_d33 : decode J_MSquareRows_frame.2.1 33 = .ok (.iinc 2 1, 3) := by decide +kernel
theorem J_MSquareRows_frame_d36 : decode J_MSquareRows_frame.2.1 36 = .ok (.goto (-26), 3) := by decide +kernel
theorem J_MSquareRows_frame_d39 : decode J_MSquareRows_frame.2.1 39 = .ok (.iconst 0, 1) := by decide +kernel
theorem J_MSquareRows_frame_d40 : decode J_MSquareRows_frame.2.1 40 = .ok (.istore_n 2, 1) := by decide +kernel
theorem J_MSquareRows_frame_d41 : decode J_MSquareRows_frame.2.1 41 = .ok (.iload_n 2, 1) := by decide +kernel
theorem J_MSquareRows_frame_d42 : decode J_MSquareRows_frame.2.1 42 = .ok (.aload_n 0, 1) := by decide +kernel
theorem J_MSquareRows_frame_d43 : decode J_MSquareRows_frame.2.1 43 = .ok (.getfield 163, 3) := by decide +kernel
theorem J_MSquareRows_frame_d46 : decode J_MSquareRows_frame.2.1 46 = .ok (.if_icmp .ge 45, 3) := by decide +kernel
theorem J_MSquareRows_frame_d49 : decode J_MSquareRows_frame.2.1 49 = .ok (.aload_n 0, 1) := by decide +kernel
theorem J_MSquareRows_frame_d50 : decode J_MSquareRows_frame.2.1 50 = .ok (.iload_n 2, 1) := by decide +kernel
theorem J_MSquareRows_frame_d51 : decode J_MSquareRows_frame.2.1 51 = .ok (.bipush 6, 2) := by decide +kernel
theorem J_MSquareRows_frame_d53 : decode J_MSquareRows_frame.2.1 53 = .ok (.iload_n 2, 1) := by decide +kernel
theorem J_MSquareRows_frame_d54 : decode J_MSquareRows_frame.2.1 54 = .ok (.iconst 2, 1) := by decide +kernel
theorem J_MSquareRows_frame_d55 : decode J_MSquareRows_frame.2.1 55 = .ok (.irem, 1) := by decide +kernel
theorem J_MSquareRows_frame_d56 : decode J_MSquareRows_frame.2.1 56 = .ok (.ifCond .ne 7, 3) := by decide +kernel
theorem J_MSquareRows_frame_d59 : decode J_MSquareRows_frame.2.1 59 = .ok (.iconst 1, 1) := by decide +kernel
theorem J_MSquareRows_frame_d60 : decode J_MSquareRows_frame.2.1 60 = .ok (.goto 4, 3) := by decide +kernel
theorem J_MSquareRows_frame_d63 : decode J_MSquareRows_frame.2.1 63 = .ok (.iconst 0, 1) := by decide +kernel
theorem J_MSquareRows_frame_d64 : decode J_MSquareRows_frame.2.1 64 = .ok (.invokevirtual 185, 3) := by decide +kernel
theorem J_MSquareRows_frame_d67 : decode J_MSquareRows_frame.2.1 67 = .ok (.aload_n 0, 1) := by decide +kernel
theorem J_MSquareRows_frame_d68 : decode J_MSquareRows_frame.2.1 68 = .ok (.bipush 6, 2) := by decide +kernel
theorem J_MSquareRows_frame_d70 : decode J_MSquareRows_frame.2.1 70 = .ok (.iload_n 2, 1) := by decide +kernel
theorem J_MSquareRows_frame_d71 : decode J_MSquareRows_frame.2.1 71 = .ok (.iload_n 2, 1) := by decide +kernel
theorem J_MSquareRows_frame_d72 : decode J_MSquareRows_frame.2.1 72 = .ok (.iconst 2, 1) := by decide +kernel
theorem J_MSquareRows_frame_d73 : decode J_MSquareRows_frame.2.1 73 = .ok (.irem, 1) := by decide +kernel
theorem J_MSquareRows_frame_d74 : decode J_MSquareRows_frame.2.1 74 = .ok (.ifCond .ne 7, 3) := by decide +kernel
theorem J_MSquareRows_frame_d77 : decode J_MSquareRows_frame.2.1 77 = .ok (.iconst 1, 1) := by decide +kernel
theorem J_MSquareRows_frame_d78 : decode J_MSquareRows_frame.2.1 78 = .ok (.goto 4, 3) := by decide +kernel
theorem J_MSquareRows_frame_d81 : decode J_MSquareRows_frame.2.1 81 = .ok (.iconst 0, 1) := by decide +kernel
theorem J_MSquareRows_frame_d82 : decode J_MSquareRows_frame.2.1 82 = .ok (.invokevirtual 185, 3) := by decide +kernel
theorem J_MSquareRows_frame_d85 : decode J_MSquareRows_frame.2.1 85 = .ok (.iinc 2 1, 3) := by decide +kernel
theorem J_MSquareRows_frame_d88 : decode J_MSquareRows_frame.2.1 88 = .ok (.goto (-47), 3) := by decide +kernel
theorem J_MSquareRows_frame_d91 : decode J_MSquareRows_frame.2.1 91 = .ok (.aload_n 0, 1) := by decide +kernel
theorem J_MSquareRows_frame_d92 : decode J_MSquareRows_frame.2.1 92 = .ok (.iconst 3, 1) := by decide +kernel
theorem J_MSquareRows_frame_d93 : decode J_MSquareRows_frame.2.1 93 = .ok (.iconst 3, 1) := by decide +kernel
theorem J_MSquareRows_frame_d94 : decode J_MSquareRows_frame.2.1 94 = .ok (.iconst 4, 1) := by decide +kernel
theorem J_MSquareRows_frame_d95 : decode J_MSquareRows_frame.2.1 95 = .ok (.iconst 1, 1) := by decide +kernel
theorem J_MSquareRows_frame_d96 : decode J_MSquareRows_frame.2.1 96 = .ok (.invokevirtual 192, 3) := by decide +kernel
theorem J_MSquareRows_frame_d99 : decode J_MSquareRows_frame.2.1 99 = .ok (.aload_n 0, 1) := by decide +kernel
theorem J_MSquareRows_frame_d100 : decode J_MSquareRows_frame.2.1 100 = .ok (.aload_n 0, 1) := by decide +kernel
theorem J_MSquareRows_frame_d101 : decode J_MSquareRows_frame.2.1 101 = .ok (.getfield 163, 3) := by decide +kernel
theorem J_MSquareRows_frame_d104 : decode J_MSquareRows_frame.2.1 104 = .ok (.iconst 4, 1) := by decide +kernel
theorem J_MSquareRows_frame_d105 : decode J_MSquareRows_frame.2.1 105 = .ok (.isub, 1) := by decide +kernel
theorem J_MSquareRows_frame_d106 : decode J_MSquareRows_frame.2.1 106 = .ok (.iconst 3, 1) := by decide +kernel
theorem J_MSquareRows_frame_d107 : decode J_MSquareRows_frame.2.1 107 = .ok (.iconst 4, 1) := by decide +kernel
theorem J_MSquareRows_frame_d108 : decode J_MSquareRows_frame.2.1 108 = .ok (.iconst 1, 1) := by decide +kernel
theorem J_MSquareRows_frame_d109 : decode J_MSquareRows_frame.2.1 109 = .ok (.invokevirtual 192, 3) := by decide +kernel
theorem J_MSquareRows_frame_d112 : decode J_MSquareRows_frame.2.1 112 = .ok (.aload_n 0, 1) := by decide +kernel
theorem J_MSquareRows_frame_d113 : decode J_MSquareRows_frame.2.1 113 = .ok (.iconst 3, 1) := by decide +kernel
theorem J_MSquareRows_frame_d114 : decode J_MSquareRows_frame.2.1 114 = .ok (.aload_n 0, 1) := by decide +kernel
theorem J_MSquareRows_frame_d115 : decode J_MSquareRows_frame.2.1 115 = .ok (.getfield 163, 3) := by decide +kernel
theorem J_MSquareRows_frame_d118 : decode J_MSquareRows_frame.2.1 118 = .ok (.iconst 4, 1) := by decide +kernel
theorem J_MSquareRows_frame_d119 : decode J_MSquareRows_frame.2.1 119 = .ok (.isub, 1) := by decide +kernel
theorem J_MSquareRows_frame_d120 : decode J_MSquareRows_frame.2.1 120 = .ok (.iconst 4, 1) := by decide +kernel
theorem J_MSquareRows_frame_d121 : decode J_MSquareRows_frame.2.1 121 = .ok (.iconst 1, 1) := by decide +kernel
theorem J_MSquareRows_frame_d122 : decode J_MSquareRows_frame.2.1 122 = .ok (.invokevirtual 192, 3) := by decide +kernel
theorem J_MSquareRows_frame_d125 : decode J_MSquareRows_frame.2.1 125 = .ok (.iload_n 1, 1) := by decide +kernel
theorem J_MSquareRows_frame_d126 : decode J_MSquareRows_frame.2.1 126 = .ok (.bipush 7, 2) := by decide +kernel
theorem J_MSquareRows_frame_d128 : decode J_MSquareRows_frame.2.1 128 = .ok (.idiv, 1) := by decide +kernel
theorem J_MSquareRows_frame_d129 : decode J_MSquareRows_frame.2.1 129 = .ok (.iconst 2, 1) := by decide +kernel
theorem J_MSquareRows_frame_d130 : decode J_MSquareRows_frame.2.1 130 = .ok (.iadd, 1) := by decide +kernel
theorem J_MSquareRows_frame_d131 : decode J_MSquareRows_frame.2.1 131 = .ok (.istore_n 2, 1) := by decide +kernel
theorem J_MSquareRows_frame_d132 : decode J_MSquareRows_frame.2.1 132 = .ok (.iconst 0, 1) := by decide +kernel
theorem J_MSquareRows_frame_d133 : decode J_MSquareRows_frame.2.1 133 = .ok (.istore_n 3, 1) := by decide +kernel
theorem J_MSquareRows_frame_d134 : decode J_MSquareRows_frame.2.1 134 = .ok (.iload_n 3, 1) := by decide +kernel
theorem J_MSquareRows_frame_d135 : decode J_MSquareRows_frame.2.1 135 = .ok (.iload_n 2, 1) := by decide +kernel
theorem J_MSquareRows_frame_d136 : decode J_MSquareRows_frame.2.1 136 = .ok (.if_icmp .ge 87, 3) := by decide +kernel
theorem J_MSquareRows_frame_d139 : decode J_MSquareRows_frame.2.1 139 = .ok (.iload_n 1, 1) := by decide +kernel
theorem J_MSquareRows_frame_d140 : decode J_MSquareRows_frame.2.1 140 = .ok (.iconst 1, 1) := by decide +kernel
theorem J_MSquareRows_frame_d141 : decode J_MSquareRows_frame.2.1 141 = .ok (.if_icmp .le 82, 3) := by decide +kernel
theorem J_MSquareRows_frame_d144 : decode J_MSquareRows_frame.2.1 144 = .ok (.iconst 0, 1) := by decide +kernel
theorem J_MSquareRows_frame_d145 : decode J_MSquareRows_frame.2.1 145 = .ok (.istore 4, 2) := by decide +kernel
theorem J_MSquareRows_frame_d147 : decode J_MSquareRows_frame.2.1 147 = .ok (.iload 4, 2) := by decide +kernel
theorem J_MSquareRows_frame_d149 : decode J_MSquareRows_frame.2.1 149 = .ok (.iload_n 2, 1) := by decide +kernel
theorem J_MSquareRows_frame_d150 : decode J_MSquareRows_frame.2.1 150 = .ok (.if_icmp .ge 67, 3) := by decide +kernel
theorem J_MSquareRows_frame_d153 : decode J_MSquareRows_frame.2.1 153 = .ok (.iload_n 3, 1) := by decide +kernel
theorem J_MSquareRows_frame_d154 : decode J_MSquareRows_frame.2.1 154 = .ok (.ifCond .ne 16, 3) := by decide +kernel
theorem J_MSquareRows_frame_d157 : decode J_MSquareRows_frame.2.1 157 = .ok (.iload 4, 2) := by decide +kernel
theorem J_MSquareRows_frame_d159 : decode J_MSquareRows_frame.2.1 159 = .ok (.ifCond .eq 23, 3) := by decide +kernel
theorem J_MSquareRows_frame_d162 : decode J_MSquareRows_frame.2.1 162 = .ok (.iload 4, 2) := by decide +kernel
theorem J_MSquareRows_frame_d164 : decode J_MSquareRows_frame.2.1 164 = .ok (.iload_n 2, 1) := by decide +kernel
theorem J_MSquareRows_frame_d165 : decode J_MSquareRows_frame.2.1 165 = .ok (.iconst 1, 1) := by decide +kernel
theorem J_MSquareRows_frame_d166 : decode J_MSquareRows_frame.2.1 166 = .ok (.isub, 1) := by decide +kernel
theorem J_MSquareRows_frame_d167 : decode J_MSquareRows_frame.2.1 167 = .ok (.if_icmp .eq 15, 3) := by decide +kernel
theorem J_MSquareRows_frame_d170 : decode J_MSquareRows_frame.2.1 170 = .ok (.iload_n 3, 1) := by decide +kernel
theorem J_MSquareRows_frame_d171 : decode J_MSquareRows_frame.2.1 171 = .ok (.iload_n 2, 1) := by decide +kernel
theorem J_MSquareRows_frame_d172 : decode J_MSquareRows_frame.2.1 172 = .ok (.iconst 1, 1) := by decide +kernel
theorem J_MSquareRows_frame_d173 : decode J_MSquareRows_frame.2.1 173 = .ok (.isub, 1) := by decide +kernel
theorem J_MSquareRows_frame_d174 : decode J_MSquareRows_frame.2.1 174 = .ok (.if_icmp .ne 12, 3) := by decide +kernel
theorem J_MSquareRows_frame_d177 : decode J_MSquareRows_frame.2.1 177 = .ok (.iload 4, 2) := by decide +kernel
theorem J_MSquareRows_frame_d179 : decode J_MSquareRows_frame.2.1 179 = .ok (.ifCond .ne 7, 3) := by decide +kernel
theorem J_MSquareRows_frame_d182 : decode J_MSquareRows_frame.2.1 182 = .ok (.iconst 1, 1) := by decide +kernel
theorem J_MSquareRows_frame_d183 : decode J_MSquareRows_frame.2.1 183 = .ok (.goto 4, 3) := by decide +kernel
theorem J_MSquareRows_frame_d186 : decode J_MSquareRows_frame.2.1 186 = .ok (.iconst 0, 1) := by decide +kernel
theorem J_MSquareRows_frame_d187 : decode J_MSquareRows_frame.2.1 187 = .ok (.istore 5, 2) := by decide +kernel
theorem J_MSquareRows_frame_d189 : decode J_MSquareRows_frame.2.1 189 = .ok (.iload 5, 2) := by decide +kernel
theorem J_MSquareRows_frame_d191 : decode J_MSquareRows_frame.2.1 191 = .ok (.ifCond .ne 20, 3) := by decide +kernel
theorem J_MSquareRows_frame_d194 : decode J_MSquareRows_frame.2.1 194 = .ok (.aload_n 0, 1) := by decide +kernel
theorem J_MSquareRows_frame_d195 : decode J_MSquareRows_frame.2.1 195 = .ok (.iload_n 1, 1) := by decide +kernel
theorem J_MSquareRows_frame_d196 : decode J_MSquareRows_frame.2.1 196 = .ok (.iload_n 3, 1) := by decide +kernel
theorem J_MSquareRows_frame_d197 : decode J_MSquareRows_frame.2.1 197 = .ok (.invokestatic 196, 3) := by decide +kernel
theorem J_MSquareRows_frame_d200 : decode J_MSquareRows_frame.2.1 200 = .ok (.iload_n 1, 1) := by decide +kernel
theorem J_MSquareRows_frame_d201 : decode J_MSquareRows_frame.2.1 201 = .ok (.iload 4, 2) := by decide +kernel
theorem J_MSquareRows_frame_d203 : decode J_MSquareRows_frame.2.1 203 = .ok (.invokestatic 196, 3) := by decide +kernel
theorem J_MSquareRows_frame_d206 : decode J_MSquareRows_frame.2.1 206 = .ok (.iconst 2, 1) := by decide +kernel
theorem J_MSquareRows_frame_d207 : decode J_MSquareRows_frame.2.1 207 = .ok (.iconst 0, 1) := by decide +kernel
theorem J_MSquareRows_frame_d208 : decode J_MSquareRows_frame.2.1 208 = .ok (.invokevirtual 192, 3) := by decide +kernel
theorem J_MSquareRows_frame_d211 : decode J_MSquareRows_frame.2.1 211 = .ok (.iinc 4 1, 3) := by decide +kernel
theorem J_MSquareRows_frame_d214 : decode J_MSquareRows_frame.2.1 214 = .ok (.goto (-67), 3) := by decide +kernel
theorem J_MSquareRows_frame_d217 : decode J_MSquareRows_frame.2.1 217 = .ok (.iinc 3 1, 3) := by decide +kernel
theorem J_MSquareRows_frame_d220 : decode J_MSquareRows_frame.2.1 220 = .ok (.goto (-86), 3) := by decide +kernel
theorem J_MSquareRows_frame_d223 : decode J_MSquareRows_frame.2.1 223 = .ok (.aload_n 0, 1) := by decide +kernel
theorem J_MSquareRows_frame_d224 : decode J_MSquareRows_frame.2.1 224 = .ok (.iconst 0, 1) := by decide +kernel
theorem J_MSquareRows_frame_d225 : decode J_MSquareRows_frame.2.1 225 = .ok (.invokevirtual 199, 3) := by decide +kernel
theorem J_MSquareRows_frame_d228 : decode J_MSquareRows_frame.2.1 228 = .ok (.aload_n 0, 1) := by decide +kernel
theorem J_MSquareRows_frame_d229 : decode J_MSquareRows_frame.2.1 229 = .ok (.bipush 8, 2) := by decide +kernel
theorem J_MSquareRows_frame_d231 : decode J_MSquareRows_frame.2.1 231 = .ok (.aload_n 0, 1) := by decide +kernel
theorem J_MSquareRows_frame_d232 : decode J_MSquareRows_frame.2.1 232 = .ok (.getfield 163, 3) := by decide +kernel
theorem J_MSquareRows_frame_d235 : decode J_MSquareRows_frame.2.1 235 = .ok (.bipush 8, 2) := by decide +kernel
theorem J_MSquareRows_frame_d237 : decode J_MSquareRows_frame.2.1 237 = .ok (.isub, 1) := by decide +kernel
theorem J_MSquareRows_frame_d238 : decode J_MSquareRows_frame.2.1 238 = .ok (.iconst 1, 1) := by decide +kernel
theorem J_MSquareRows_frame_d239 : decode J_MSquareRows_frame.2.1 239 = .ok (.invokevirtual 185, 3) := by decide +kernel
theorem J_MSquareRows_frame_d242 : decode J_MSquareRows_frame.2.1 242 = .ok (.iload_n 1, 1) := by decide +kernel
theorem J_MSquareRows_frame_d243 : decode J_MSquareRows_frame.2.1 243 = .ok (.bipush 12, 2) := by decide +kernel
theorem J_MSquareRows_frame_d245 : decode J_MSquareRows_frame.2.1 245 = .ok (.sipush 7973, 3) := by decide +kernel
theorem J_MSquareRows_frame_d248 : decode J_MSquareRows_frame.2.1 248 = .ok (.invokestatic 172, 3) := by decide +kernel
theorem J_MSquareRows_frame_d251 : decode J_MSquareRows_frame.2.1 251 = .ok (.istore_n 3, 1) := by decide +kernel
theorem J_MSquareRows_frame_d252 : decode J_MSquareRows_frame.2.1 252 = .ok (.iconst 0, 1) := by decide +kernel
theorem J_MSquareRows_frame_d253 : decode J_MSquareRows_frame.2.1 253 = .ok (.istore 4, 2) := by decide +kernel
theorem J_MSquareRows_frame_d255 : decode J_MSquareRows_frame.2.1 255 = .ok (.iload 4, 2) := by decide +kernel
theorem J_MSquareRows_frame_d257 : decode J_MSquareRows_frame.2.1 257 = .ok (.bipush 18, 2) := by decide +kernel
theorem J_MSquareRows_frame_d259 : decode J_MSquareRows_frame.2.1 259 = .ok (.if_icmp .ge 85, 3) := by decide +kernel
theorem J_MSquareRows_frame_d262 : decode J_MSquareRows_frame.2.1 262 = .ok (.iload_n 1, 1) := by decide +kernel
theorem J_MSquareRows_frame_d263 : decode J_MSquareRows_frame.2.1 263 = .ok (.bipush 6, 2) := by decide +kernel
theorem J_MSquareRows_frame_d265 : decode J_MSquareRows_frame.2.1 265 = .ok (.if_icmp .le 79, 3) := by decide +kernel
theorem J_MSquareRows_frame_d268 : decode J_MSquareRows_frame.2.1 268 = .ok (.aload_n 0, 1) := by decide +kernel
theorem J_MSquareRows_frame_d269 : decode J_MSquareRows_frame.2.1 269 = .ok (.aload_n 0, 1) := by decide +kernel
theorem J_MSquareRows_frame_d270 : decode J_MSquareRows_frame.2.1 270 = .ok (.getfield 163, 3) := by decide +kernel
theorem J_MSquareRows_frame_d273 : decode J_MSquareRows_frame.2.1 273 = .ok (.bipush 11, 2) := by decide +kernel
theorem J_MSquareRows_frame_d275 : decode J_MSquareRows_frame.2.1 275 = .ok (.isub, 1) := by decide +kernel
theorem J_MSquareRows_frame_d276 : decode J_MSquareRows_frame.2.1 276 = .ok (.iload 4, 2) := by decide +kernel
theorem J_MSquareRows_frame_d278 : decode J_MSquareRows_frame.2.1 278 = .ok (.iconst 3, 1) := by decide +kernel
theorem J_MSquareRows_frame_d279 : decode J_MSquareRows_frame.2.1 279 = .ok (.irem, 1) := by decide +kernel
theorem J_MSquareRows_frame_d280 : decode J_MSquareRows_frame.2.1 280 = .ok (.iadd, 1) := by decide +kernel
theorem J_MSquareRows_frame_d281 : decode J_MSquareRows_frame.2.1 281 = .ok (.iload 4, 2) := by decide +kernel
theorem J_MSquareRows_frame_d283 : decode J_MSquareRows_frame.2.1 283 = .ok (.iconst 3, 1) := by decide +kernel
theorem J_MSquareRows_frame_d284 : decode J_MSquareRows_frame.2.1 284 = .ok (.idiv, 1) := by decide +kernel
theorem J_MSquareRows_frame_d285 : decode J_MSquareRows_frame.2.1 285 = .ok (.iload_n 3, 1) := by decide +kernel
theorem J_MSquareRows_frame_d286 : decode J_MSquareRows_frame.2.1 286 = .ok (.iload 4, 2) := by decide +kernel
theorem J_MSquareRows_frame_d288 : decode J_MSquareRows_frame.2.1 288 = .ok (.ishr, 1) := by decide +kernel
theorem J_MSquareRows_frame_d289 : decode J_MSquareRows_frame.2.1 289 = .ok (.iconst 1, 1) := by decide +kernel
theorem J_MSquareRows_frame_d290 : decode J_MSquareRows_frame.2.1 290 = .ok (.iand, 1) := by decide +kernel
theorem J_MSquareRows_frame_d291 : decode J_MSquareRows_frame.2.1 291 = .ok (.iconst 1, 1) := by decide +kernel
theorem J_MSquareRows_frame_d292 : decode J_MSquareRows_frame.2.1 292 = .ok (.if_icmp .ne 7, 3) := by decide +kernel
theorem J_MSquareRows_frame_d295 : decode J_MSquareRows_frame.2.1 295 = .ok (.iconst 1, 1) := by decide +kernel
theorem J_MSquareRows_frame_d296 : decode J_MSquareRows_frame.2.1 296 = .ok (.goto 4, 3) := by decide +kernel
theorem J_MSquareRows_frame_d299 : decode J_MSquareRows_frame.2.1 299 = .ok (.iconst 0, 1) := by decide +kernel
theorem J_MSquareRows_frame_d300 : decode J_MSquareRows_frame.2.1 300 = .ok (.invokevirtual 185, 3) := by decide +kernel
theorem J_MSquareRows_frame_d303 : decode J_MSquareRows_frame.2.1 303 = .ok (.aload_n 0, 1) := by decide +kernel
theorem J_MSquareRows_frame_d304 : decode J_MSquareRows_frame.2.1 304 = .ok (.iload 4, 2) := by decide +kernel
theorem J_MSquareRows_frame_d306 : decode J_MSquareRows_frame.2.1 306 = .ok (.iconst 3, 1) := by decide +kernel
theorem J_MSquareRows_frame_d307 : decode J_MSquareRows_frame.2.1 307 = .ok (.idiv, 1) := by decide +kernel
theorem J_MSquareRows_frame_d308 : decode J_MSquareRows_frame.2.1 308 = .ok (.aload_n 0, 1) := by decide +kernel
theorem J_MSquareRows_frame_d309 : decode J_MSquareRows_frame.2.1 309 = .ok (.getfield 163, 3) := by decide +kernel
theorem J_MSquareRows_frame_d312 : decode J_MSquareRows_frame.2.1 312 = .ok (.bipush 11, 2) := by decide +kernel
theorem J_MSquareRows_frame_d314 : decode J_MSquareRows_frame.2.1 314 = .ok (.isub, 1) := by decide +kernel
theorem J_MSquareRows_frame_d315 : decode J_MSquareRows_frame.2.1 315 = .ok (.iload 4, 2) := by decide +kernel
theorem J_MSquareRows_frame_d317 : decode J_MSquareRows_frame.2.1 317 = .ok (.iconst 3, 1) := by decide +kernel
theorem J_MSquareRows_frame_d318 : decode J_MSquareRows_frame.2.1 318 = .ok (.irem, 1) := by decide +kernel
theorem J_MSquareRows_frame_d319 : decode J_MSquareRows_frame.2.1 319 = .ok (.iadd, 1) := by decide +kernel
theorem J_MSquareRows_frame_d320 : decode J_MSquareRows_frame.2.1 320 = .ok (.iload_n 3, 1) := by decide +kernel
theorem J_MSquareRows_frame_d321 : decode J_MSquareRows_frame.2.1 321 = .ok (.iload 4, 2) := by decide +kernel
theorem J_MSquareRows_frame_d323 : decode J_MSquareRows_frame.2.1 323 = .ok (.ishr, 1) := by decide +kernel
theorem J_MSquareRows_frame_d324 : decode J_MSquareRows_frame.2.1 324 = .ok (.iconst 1, 1) := by decide +kernel
theorem J_MSquareRows_frame_d325 : decode J_MSquareRows_frame.2.1 325 = .ok (.iand, 1) := by decide +kernel
theorem J_MSquareRows_frame_d326 : decode J_MSquareRows_frame.2.1 326 = .ok (.iconst 1, 1) := by decide +kernel
theorem J_MSquareRows_frame_d327 : decode J_MSquareRows_frame.2.1 327 = .ok (.if_icmp .ne 7, 3) := by decide +kernel
theorem J_MSquareRows_frame_d330 : decode J_MSquareRows_frame.2.1 330 = .ok (.iconst 1, 1) := by decide +kernel
theorem J_MSquareRows_frame_d331 : decode J_MSquareRows_frame.2.1 331 = .ok (.goto 4, 3) := by decide +kernel
theorem J_MSquareRows_frame_d334 : decode J_MSquareRows_frame.2.1 334 = .ok (.iconst 0, 1) := by decide +kernel
theorem J_MSquareRows_frame_d335 : decode J_MSquareRows_frame.2.1 335 = .ok (.invokevirtual 185, 3) := by decide +kernel
theorem J_MSquareRows_frame_d338 : decode J_MSquareRows_frame.2.1 338 = .ok (.iinc 4 1, 3) := by decide +kernel
theorem J_MSquareRows_frame_d341 : decode J_MSquareRows_frame.2.1 341 = .ok (.goto (-86), 3) := by decide +kernel
theorem J_MSquareRows_frame_d344 : decode J_MSquareRows_frame.2.1 344 = .ok (.return_, 1) := by decide +kernel
theorem f_MSquareRows_frame_ok {L : Nat} {xs : Nat → Int32} {dep : Nat} {w : Bool} {p0 : Int32} {M : im_M} {Q : im_M → Prop} (hM : lw_S w M) (h : ed (f_MSquareRows_frame p0 M) Q) : ia (tb_G L xs) (dep + 3) J_MSquareRows_frame (rwV w Q) (0, lv_args 0 [.ref 108, .int p0], [], M) := by
  have hS : im_St (tb_G L xs) (dep + 3) J_MSquareRows_frame (ia (tb_G L xs) (dep + 3) J_MSquareRows_frame (rwV w Q)) := ia_St
  unfold f_MSquareRows_frame at h
  have l0 : im_lk (lv_args 0 [.ref 108, .int p0]) 0 = some (.ref 108) := rfl
  have l1 : im_lk (lv_args 0 [.ref 108, .int p0]) 1 = some (.int p0) := rfl
  refine iq_aload_n hS 1 J_MSquareRows_frame_d0 l0 rfl ?_
  refine iq_iload_n hS 2 J_MSquareRows_frame_d1 l1 rfl ?_
  obtain ⟨Q1, hQ1, h⟩ := bd1_ed h
  refine iq_cpI hS 5 J_MSquareRows_frame_d2 rfl (pr_stat (vs := [_]) lc_16_169 lT_416 rfl rfl (by decide) rfl (Nat.le_of_ble_eq_true rfl) (Nat.le_of_ble_eq_true rfl)) (f_MSquareRows_sideOf_ok (dep := dep + 2) hM h) rfl ?_
  intro x1 h
  replace h := hQ1 _ h
  refine iq_putI hS 8 J_MSquareRows_frame_d5 lf_16_163 (Or.inl rfl) rfl (ka_108 hM) rfl ?_
  refine iq_iconst hS 9 J_MSquareRows_frame_d8 (v := 0) (by decide +kernel) rfl ?_
  refine iq_istore_n hS 10 J_MSquareRows_frame_d9 (by decide) rfl ?_
  obtain ⟨Q2, hQ2, h⟩ := bd1_ed h
  have K2 : ∀ (M3 : im_M) (L' : List (Nat × Value)), lw_S w M3 → im_lk L' 0 = some (.ref 108) → im_lk L' 1 = some (.int p0) → Q2 M3 → ia (tb_G L xs) (dep + 3) J_MSquareRows_frame (rwV w Q) (39, L', [], M3) := by
    intro M3 L' hM3 l4 l5 h
    replace h := hQ2 _ h
    refine iq_iconst hS 40 J_MSquareRows_frame_d39 (v := 0) (by decide +kernel) rfl ?_
    refine iq_istore_n hS 41 J_MSquareRows_frame_d40 (by decide) rfl ?_
    obtain ⟨Q6, hQ6, h⟩ := bd1_ed h
    have K6 : ∀ (M7 : im_M) (L' : List (Nat × Value)), lw_S w M7 → im_lk L' 0 = some (.ref 108) → im_lk L' 1 = some (.int p0) → Q6 M7 → ia (tb_G L xs) (dep + 3) J_MSquareRows_frame (rwV w Q) (91, L', [], M7) := by
      intro M7 L' hM7 l8 l9 h
      replace h := hQ6 _ h
      refine iq_aload_n hS 92 J_MSquareRows_frame_d91 l8 rfl ?_
      refine iq_iconst hS 93 J_MSquareRows_frame_d92 (v := 3) (by decide +kernel) rfl ?_
      refine iq_iconst hS 94 J_MSquareRows_frame_d93 (v := 3) (by decide +kernel) rfl ?_
      refine iq_iconst hS 95 J_MSquareRows_frame_d94 (v := 4) (by decide +kernel) rfl ?_
      refine iq_iconst hS 96 J_MSquareRows_frame_d95 (v := 1) (by decide +kernel) rfl ?_
      obtain ⟨Q10, hQ10, h⟩ := bd1_ed h
      refine iq_cwV hS 99 J_MSquareRows_frame_d96 rfl (pr_inst (vs := [_, _, _, _]) lc_16_192 lT_419 rfl rfl (by decide) (by decide) rfl (Nat.le_of_ble_eq_true rfl) (Nat.le_of_ble_eq_true rfl) (fun _ => Or.inl (pr_b (ka_108 hM7) (by decide) rfl))) (f_MSquareRows_square_ok (dep := dep + 0) hM7 h) rfl ?_
      intro M10 hM10 h
      replace h := hQ10 _ h
      refine iq_aload_n hS 100 J_MSquareRows_frame_d99 l8 rfl ?_
      refine iq_aload_n hS 101 J_MSquareRows_frame_d100 l8 rfl ?_
      refine iq_getI hS 104 J_MSquareRows_frame_d101 lf_16_163 (Or.inl rfl) (ka_108 hM10) rfl ?_
      refine iq_iconst hS 105 J_MSquareRows_frame_d104 (v := 4) (by decide +kernel) rfl ?_
      refine iq_isub hS 106 J_MSquareRows_frame_d105 rfl ?_
      refine iq_iconst hS 107 J_MSquareRows_frame_d106 (v := 3) (by decide +kernel) rfl ?_
      refine iq_iconst hS 108 J_MSquareRows_frame_d107 (v := 4) (by decide +kernel) rfl ?_
      refine iq_iconst hS 109 J_MSquareRows_frame_d108 (v := 1) (by decide +kernel) rfl ?_
      obtain ⟨Q11, hQ11, h⟩ := bd1_ed h
      refine iq_cwV hS 112 J_MSquareRows_frame_d109 rfl (pr_inst (vs := [_, _, _, _]) lc_16_192 lT_419 rfl rfl (by decide) (by decide) rfl (Nat.le_of_ble_eq_true rfl) (Nat.le_of_ble_eq_true rfl) (fun _ => Or.inl (pr_b (ka_108 hM10) (by decide) rfl))) (f_MSquareRows_square_ok (dep := dep + 0) hM10 h) rfl ?_
      intro M11 hM11 h
      replace h := hQ11 _ h
      refine iq_aload_n hS 113 J_MSquareRows_frame_d112 l8 rfl ?_
      refine iq_iconst hS 114 J_MSquareRows_frame_d113 (v := 3) (by decide +kernel) rfl ?_
      refine iq_aload_n hS 115 J_MSquareRows_frame_d114 l8 rfl ?_
      refine iq_getI hS 118 J_MSquareRows_frame_d115 lf_16_163 (Or.inl rfl) (ka_108 hM11) rfl ?_
      refine iq_iconst hS 119 J_MSquareRows_frame_d118 (v := 4) (by decide +kernel) rfl ?_
      refine iq_isub hS 120 J_MSquareRows_frame_d119 rfl ?_
      refine iq_iconst hS 121 J_MSquareRows_frame_d120 (v := 4) (by decide +kernel) rfl ?_
      refine iq_iconst hS 122 J_MSquareRows_frame_d121 (v := 1) (by decide +kernel) rfl ?_
      obtain ⟨Q12, hQ12, h⟩ := bd1_ed h
      refine iq_cwV hS 125 J_MSquareRows_frame_d122 rfl (pr_inst (vs := [_, _, _, _]) lc_16_192 lT_419 rfl rfl (by decide) (by decide) rfl (Nat.le_of_ble_eq_true rfl) (Nat.le_of_ble_eq_true rfl) (fun _ => Or.inl (pr_b (ka_108 hM11) (by decide) rfl))) (f_MSquareRows_square_ok (dep := dep + 0) hM11 h) rfl ?_
      intro M12 hM12 h
      replace h := hQ12 _ h
      refine iq_iload_n hS 126 J_MSquareRows_frame_d125 l9 rfl ?_
      refine iq_bipush hS 128 J_MSquareRows_frame_d126 (v := 7) (by decide +kernel) rfl ?_
      refine iq_idiv hS 129 J_MSquareRows_frame_d128 (by decide) rfl ?_
      refine iq_iconst hS 130 J_MSquareRows_frame_d129 (v := 2) (by decide +kernel) rfl ?_
      refine iq_iadd hS 131 J_MSquareRows_frame_d130 rfl ?_
      refine iq_istore_n hS 132 J_MSquareRows_frame_d131 (by decide) rfl ?_
      refine iq_iconst hS 133 J_MSquareRows_frame_d132 (v := 0) (by decide +kernel) rfl ?_
      refine iq_istore_n hS 134 J_MSquareRows_frame_d133 (by decide) rfl ?_
      obtain ⟨Q13, hQ13, h⟩ := bd1_ed h
      have K13 : ∀ (M14 : im_M) (L' : List (Nat × Value)), lw_S w M14 → im_lk L' 0 = some (.ref 108) → im_lk L' 1 = some (.int p0) → Q13 M14 → ia (tb_G L xs) (dep + 3) J_MSquareRows_frame (rwV w Q) (223, L', [], M14) := by
        intro M14 L' hM14 l15 l16 h
        replace h := hQ13 _ h
        refine iq_aload_n hS 224 J_MSquareRows_frame_d223 l15 rfl ?_
        refine iq_iconst hS 225 J_MSquareRows_frame_d224 (v := 0) (by decide +kernel) rfl ?_
        obtain ⟨Q17, hQ17, h⟩ := bd1_ed h
        refine iq_cwV hS 228 J_MSquareRows_frame_d225 rfl (pr_inst (vs := [_]) lc_16_199 lT_422 rfl rfl (by decide) (by decide) rfl (Nat.le_of_ble_eq_true rfl) (Nat.le_of_ble_eq_true rfl) (fun _ => Or.inl (pr_b (ka_108 hM14) (by decide) rfl))) (f_MSquareRows_layForm_ok (dep := dep + 0) hM14 h) rfl ?_
        intro M17 hM17 h
        replace h := hQ17 _ h
        refine iq_aload_n hS 229 J_MSquareRows_frame_d228 l15 rfl ?_
        refine iq_bipush hS 231 J_MSquareRows_frame_d229 (v := 8) (by decide +kernel) rfl ?_
        refine iq_aload_n hS 232 J_MSquareRows_frame_d231 l15 rfl ?_
        refine iq_getI hS 235 J_MSquareRows_frame_d232 lf_16_163 (Or.inl rfl) (ka_108 hM17) rfl ?_
        refine iq_bipush hS 237 J_MSquareRows_frame_d235 (v := 8) (by decide +kernel) rfl ?_
        refine iq_isub hS 238 J_MSquareRows_frame_d237 rfl ?_
        refine iq_iconst hS 239 J_MSquareRows_frame_d238 (v := 1) (by decide +kernel) rfl ?_
        obtain ⟨Q18, hQ18, h⟩ := bd1_ed h
        refine iq_cwV hS 242 J_MSquareRows_frame_d239 rfl (pr_inst (vs := [_, _, _]) lc_16_185 lT_417 rfl rfl (by decide) (by decide) rfl (Nat.le_of_ble_eq_true rfl) (Nat.le_of_ble_eq_true rfl) (fun _ => Or.inl (pr_b (ka_108 hM17) (by decide) rfl))) (f_MSquareRows_fix_ok (dep := dep + 1) hM17 h) rfl ?_
        intro M18 hM18 h
        replace h := hQ18 _ h
        refine iq_iload_n hS 243 J_MSquareRows_frame_d242 l16 rfl ?_
        refine iq_bipush hS 245 J_MSquareRows_frame_d243 (v := 12) (by decide +kernel) rfl ?_
        refine iq_sipush hS 248 J_MSquareRows_frame_d245 (v := 7973) (by decide +kernel) rfl ?_
        obtain ⟨Q19, hQ19, h⟩ := bd1_ed h
        refine iq_cpI hS 251 J_MSquareRows_frame_d248 rfl (pr_stat (vs := [_, _, _]) lc_16_172 lT_424 rfl rfl (by decide) rfl (Nat.le_of_ble_eq_true rfl) (Nat.le_of_ble_eq_true rfl)) (f_MSquareRows_shortWord_ok (dep := dep + 2) hM18 h) rfl ?_
        intro x19 h
        replace h := hQ19 _ h
        refine iq_istore_n hS 252 J_MSquareRows_frame_d251 (by decide) rfl ?_
        refine iq_iconst hS 253 J_MSquareRows_frame_d252 (v := 0) (by decide +kernel) rfl ?_
        refine iq_istore hS 255 J_MSquareRows_frame_d253 (by decide) rfl ?_
        obtain ⟨Q20, hQ20, h⟩ := bd1_ed h
        have K20 : ∀ (M21 : im_M) (L' : List (Nat × Value)), lw_S w M21 → Q20 M21 → ia (tb_G L xs) (dep + 3) J_MSquareRows_frame (rwV w Q) (344, L', [], M21) := by
          intro M21 L' hM21  h
          replace h := hQ20 _ h
          exact iq_ret J_MSquareRows_frame_d344 rfl ⟨rfl, hM21, ed_some h⟩
        obtain ⟨r20, hr20, hq20⟩ := h
        obtain ⟨n20, hn20⟩ := lp_n hr20
        have I20 : ∀ (n : Nat) (x22 : Int32) (M23 : im_M) (L' : List (Nat × Value)), lw_S w M23 → im_lk L' 0 = some (.ref 108) → im_lk L' 1 = some (.int p0) → im_lk L' 3 = some (.int x19) → im_lk L' 4 = some (.int x22) → lpn (uc2 (f_MSquareRows_frame_L255 p0 x19)) n (x22, M23) = some r20 → ia (tb_G L xs) (dep + 3) J_MSquareRows_frame (rwV w Q) (255, L', [], M23) := by
          intro n
          induction n with
          | zero => intro x22 M23 L' hM23 l24 l25 l26 l27 hn; exact (lpn_0 hn).elim
          | succ n ih =>
            intro x22 M23 L' hM23 l24 l25 l26 l27 hn
            have h := lpn_ed2 hn
            unfold f_MSquareRows_frame_L255 at h
            refine iq_iload hS 257 J_MSquareRows_frame_d255 l27 rfl ?_
            refine iq_bipush hS 259 J_MSquareRows_frame_d257 (v := 18) (by decide +kernel) rfl ?_
            refine iq_icmp_ge hS 262 J_MSquareRows_frame_d259 (t := 344) rfl (fun q259 => ?_) rfl (fun q259 => ?_)
            · replace h := ed_pos q259 h
              exact K20 _ _ hM23  (lq_r h hq20)
            · replace h := ed_neg q259 h
              refine iq_iload_n hS 263 J_MSquareRows_frame_d262 l25 rfl ?_
              refine iq_bipush hS 265 J_MSquareRows_frame_d263 (v := 6) (by decide +kernel) rfl ?_
              refine iq_icmp_le hS 268 J_MSquareRows_frame_d265 (t := 344) rfl (fun q265 => ?_) rfl (fun q265 => ?_)
              · replace h := ed_pos q265 h
                exact K20 _ _ hM23  (lq_r h hq20)
              · replace h := ed_neg q265 h
                refine iq_aload_n hS 269 J_MSquareRows_frame_d268 l24 rfl ?_
                refine iq_aload_n hS 270 J_MSquareRows_frame_d269 l24 rfl ?_
                refine iq_getI hS 273 J_MSquareRows_frame_d270 lf_16_163 (Or.inl rfl) (ka_108 hM23) rfl ?_
                refine iq_bipush hS 275 J_MSquareRows_frame_d273 (v := 11) (by decide +kernel) rfl ?_
                refine iq_isub hS 276 J_MSquareRows_frame_d275 rfl ?_
                refine iq_iload hS 278 J_MSquareRows_frame_d276 l27 rfl ?_
                refine iq_iconst hS 279 J_MSquareRows_frame_d278 (v := 3) (by decide +kernel) rfl ?_
                refine iq_irem hS 280 J_MSquareRows_frame_d279 (by decide) rfl ?_
                refine iq_iadd hS 281 J_MSquareRows_frame_d280 rfl ?_
                refine iq_iload hS 283 J_MSquareRows_frame_d281 l27 rfl ?_
                refine iq_iconst hS 284 J_MSquareRows_frame_d283 (v := 3) (by decide +kernel) rfl ?_
                refine iq_idiv hS 285 J_MSquareRows_frame_d284 (by decide) rfl ?_
                refine iq_iload_n hS 286 J_MSquareRows_frame_d285 l26 rfl ?_
                refine iq_iload hS 288 J_MSquareRows_frame_d286 l27 rfl ?_
                refine iq_ishr hS 289 J_MSquareRows_frame_d288 rfl ?_
                refine iq_iconst hS 290 J_MSquareRows_frame_d289 (v := 1) (by decide +kernel) rfl ?_
                refine iq_iand hS 291 J_MSquareRows_frame_d290 rfl ?_
                refine iq_iconst hS 292 J_MSquareRows_frame_d291 (v := 1) (by decide +kernel) rfl ?_
                have J28 : ∀ (z29 : Int32) (L' : List (Nat × Value)), z29 = ((if ¬ ((x19 >>> (x22 &&& 31 : Int32) : Int32) &&& 1) = 1 then 0 else 1) : Int32) → im_lk L' 0 = some (.ref 108) → im_lk L' 1 = some (.int p0) → im_lk L' 3 = some (.int x19) → im_lk L' 4 = some (.int x22) → ia (tb_G L xs) (dep + 3) J_MSquareRows_frame (rwV w Q) (300, L', [.int z29, .int (x22 / 3), .int (((im_i M23 108 8) - 11) + (x22 - x22 / 3 * 3)), .ref 108], M23) := by
                  intro z29 L' e30 l31 l32 l33 l34
                  subst e30
                  obtain ⟨Q35, hQ35, h⟩ := bd1_ed h
                  refine iq_cwV hS 303 J_MSquareRows_frame_d300 rfl (pr_inst (vs := [_, _, _]) lc_16_185 lT_417 rfl rfl (by decide) (by decide) rfl (Nat.le_of_ble_eq_true rfl) (Nat.le_of_ble_eq_true rfl) (fun _ => Or.inl (pr_b (ka_108 hM23) (by decide) rfl))) (f_MSquareRows_fix_ok (dep := dep + 1) hM23 h) rfl ?_
                  intro M35 hM35 h
                  replace h := hQ35 _ h
                  refine iq_aload_n hS 304 J_MSquareRows_frame_d303 l31 rfl ?_
                  refine iq_iload hS 306 J_MSquareRows_frame_d304 l34 rfl ?_
                  refine iq_iconst hS 307 J_MSquareRows_frame_d306 (v := 3) (by decide +kernel) rfl ?_
                  refine iq_idiv hS 308 J_MSquareRows_frame_d307 (by decide) rfl ?_
                  refine iq_aload_n hS 309 J_MSquareRows_frame_d308 l31 rfl ?_
                  refine iq_getI hS 312 J_MSquareRows_frame_d309 lf_16_163 (Or.inl rfl) (ka_108 hM35) rfl ?_
                  refine iq_bipush hS 314 J_MSquareRows_frame_d312 (v := 11) (by decide +kernel) rfl ?_
                  refine iq_isub hS 315 J_MSquareRows_frame_d314 rfl ?_
                  refine iq_iload hS 317 J_MSquareRows_frame_d315 l34 rfl ?_
                  refine iq_iconst hS 318 J_MSquareRows_frame_d317 (v := 3) (by decide +kernel) rfl ?_
                  refine iq_irem hS 319 J_MSquareRows_frame_d318 (by decide) rfl ?_
                  refine iq_iadd hS 320 J_MSquareRows_frame_d319 rfl ?_
                  refine iq_iload_n hS 321 J_MSquareRows_frame_d320 l33 rfl ?_
                  refine iq_iload hS 323 J_MSquareRows_frame_d321 l34 rfl ?_
                  refine iq_ishr hS 324 J_MSquareRows_frame_d323 rfl ?_
                  refine iq_iconst hS 325 J_MSquareRows_frame_d324 (v := 1) (by decide +kernel) rfl ?_
                  refine iq_iand hS 326 J_MSquareRows_frame_d325 rfl ?_
                  refine iq_iconst hS 327 J_MSquareRows_frame_d326 (v := 1) (by decide +kernel) rfl ?_
                  have J36 : ∀ (z37 : Int32) (L' : List (Nat × Value)), z37 = ((if ¬ ((x19 >>> (x22 &&& 31 : Int32) : Int32) &&& 1) = 1 then 0 else 1) : Int32) → im_lk L' 0 = some (.ref 108) → im_lk L' 1 = some (.int p0) → im_lk L' 3 = some (.int x19) → im_lk L' 4 = some (.int x22) → ia (tb_G L xs) (dep + 3) J_MSquareRows_frame (rwV w Q) (335, L', [.int z37, .int (((im_i M35 108 8) - 11) + (x22 - x22 / 3 * 3)), .int (x22 / 3), .ref 108], M35) := by
                    intro z37 L' e38 l39 l40 l41 l42
                    subst e38
                    obtain ⟨Q43, hQ43, h⟩ := bd1_ed h
                    refine iq_cwV hS 338 J_MSquareRows_frame_d335 rfl (pr_inst (vs := [_, _, _]) lc_16_185 lT_417 rfl rfl (by decide) (by decide) rfl (Nat.le_of_ble_eq_true rfl) (Nat.le_of_ble_eq_true rfl) (fun _ => Or.inl (pr_b (ka_108 hM35) (by decide) rfl))) (f_MSquareRows_fix_ok (dep := dep + 1) hM35 h) rfl ?_
                    intro M43 hM43 h
                    replace h := hQ43 _ h
                    refine iq_iincv hS 341 J_MSquareRows_frame_d338 (c := 1) (by decide +kernel) l42 (by decide) rfl ?_
                    refine iq_goto hS J_MSquareRows_frame_d341 (t := 255) rfl ?_
                    exact ih _ _ _ hM43 (lk_1r l39 (by decide)) (lk_1i l40 (by decide)) (lk_1i l41 (by decide)) lk_1s (lq_l h)
                  refine iq_icmp_ne hS 330 J_MSquareRows_frame_d327 (t := 334) rfl (fun q327 => ?_) rfl (fun q327 => ?_)
                  · refine iq_iconst hS 335 J_MSquareRows_frame_d334 (v := 0) (by decide +kernel) rfl ?_
                    exact J36 _ _ (by simp only [if_pos q327]) l31 l32 l33 l34
                  · refine iq_iconst hS 331 J_MSquareRows_frame_d330 (v := 1) (by decide +kernel) rfl ?_
                    refine iq_goto hS J_MSquareRows_frame_d331 (t := 335) rfl ?_
                    exact J36 _ _ (by simp only [if_neg q327]) l31 l32 l33 l34
                refine iq_icmp_ne hS 295 J_MSquareRows_frame_d292 (t := 299) rfl (fun q292 => ?_) rfl (fun q292 => ?_)
                · refine iq_iconst hS 300 J_MSquareRows_frame_d299 (v := 0) (by decide +kernel) rfl ?_
                  exact J28 _ _ (by simp only [if_pos q292]) l24 l25 l26 l27
                · refine iq_iconst hS 296 J_MSquareRows_frame_d295 (v := 1) (by decide +kernel) rfl ?_
                  refine iq_goto hS J_MSquareRows_frame_d296 (t := 300) rfl ?_
                  exact J28 _ _ (by simp only [if_neg q292]) l24 l25 l26 l27
        exact I20 n20 _ _ _ hM18 (lk_1r (lk_1r l15 (by decide)) (by decide)) (lk_1i (lk_1i l16 (by decide)) (by decide)) (lk_1i lk_1s (by decide)) lk_1s hn20
      obtain ⟨r13, hr13, hq13⟩ := h
      obtain ⟨n13, hn13⟩ := lp_n hr13
      have I13 : ∀ (n : Nat) (x44 : Int32) (M45 : im_M) (L' : List (Nat × Value)), lw_S w M45 → im_lk L' 0 = some (.ref 108) → im_lk L' 1 = some (.int p0) → im_lk L' 2 = some (.int ((p0 / 7) + 2)) → im_lk L' 3 = some (.int x44) → lpn (uc2 (f_MSquareRows_frame_L134 p0 ((p0 / 7) + 2))) n (x44, M45) = some r13 → ia (tb_G L xs) (dep + 3) J_MSquareRows_frame (rwV w Q) (134, L', [], M45) := by
        intro n
        induction n with
        | zero => intro x44 M45 L' hM45 l46 l47 l48 l49 hn; exact (lpn_0 hn).elim
        | succ n ih =>
          intro x44 M45 L' hM45 l46 l47 l48 l49 hn
          have h := lpn_ed2 hn
          unfold f_MSquareRows_frame_L134 at h
          refine iq_iload_n hS 135 J_MSquareRows_frame_d134 l49 rfl ?_
          refine iq_iload_n hS 136 J_MSquareRows_frame_d135 l48 rfl ?_
          refine iq_icmp_ge hS 139 J_MSquareRows_frame_d136 (t := 223) rfl (fun q136 => ?_) rfl (fun q136 => ?_)
          · replace h := ed_pos q136 h
            exact K13 _ _ hM45 l46 l47 (lq_r h hq13)
          · replace h := ed_neg q136 h
            refine iq_iload_n hS 140 J_MSquareRows_frame_d139 l47 rfl ?_
            refine iq_iconst hS 141 J_MSquareRows_frame_d140 (v := 1) (by decide +kernel) rfl ?_
            refine iq_icmp_le hS 144 J_MSquareRows_frame_d141 (t := 223) rfl (fun q141 => ?_) rfl (fun q141 => ?_)
            · replace h := ed_pos q141 h
              exact K13 _ _ hM45 l46 l47 (lq_r h hq13)
            · replace h := ed_neg q141 h
              refine iq_iconst hS 145 J_MSquareRows_frame_d144 (v := 0) (by decide +kernel) rfl ?_
              refine iq_istore hS 147 J_MSquareRows_frame_d145 (by decide) rfl ?_
              obtain ⟨Q50, hQ50, h⟩ := bd1_ed h
              have K50 : ∀ (M51 : im_M) (L' : List (Nat × Value)), lw_S w M51 → im_lk L' 0 = some (.ref 108) → im_lk L' 1 = some (.int p0) → im_lk L' 2 = some (.int ((p0 / 7) + 2)) → im_lk L' 3 = some (.int x44) → Q50 M51 → ia (tb_G L xs) (dep + 3) J_MSquareRows_frame (rwV w Q) (217, L', [], M51) := by
                intro M51 L' hM51 l52 l53 l54 l55 h
                replace h := hQ50 _ h
                refine iq_iincv hS 220 J_MSquareRows_frame_d217 (c := 1) (by decide +kernel) l55 (by decide) rfl ?_
                refine iq_goto hS J_MSquareRows_frame_d220 (t := 134) rfl ?_
                exact ih _ _ _ hM51 (lk_1r l52 (by decide)) (lk_1i l53 (by decide)) (lk_1i l54 (by decide)) lk_1s (lq_l h)
              obtain ⟨r50, hr50, hq50⟩ := h
              obtain ⟨n50, hn50⟩ := lp_n hr50
              have I50 : ∀ (n : Nat) (x56 : Int32) (M57 : im_M) (L' : List (Nat × Value)), lw_S w M57 → im_lk L' 0 = some (.ref 108) → im_lk L' 1 = some (.int p0) → im_lk L' 2 = some (.int ((p0 / 7) + 2)) → im_lk L' 3 = some (.int x44) → im_lk L' 4 = some (.int x56) → lpn (uc2 (f_MSquareRows_frame_L147 p0 ((p0 / 7) + 2) x44)) n (x56, M57) = some r50 → ia (tb_G L xs) (dep + 3) J_MSquareRows_frame (rwV w Q) (147, L', [], M57) := by
                intro n
                induction n with
                | zero => intro x56 M57 L' hM57 l58 l59 l60 l61 l62 hn; exact (lpn_0 hn).elim
                | succ n ih =>
                  intro x56 M57 L' hM57 l58 l59 l60 l61 l62 hn
                  have h := lpn_ed2 hn
                  unfold f_MSquareRows_frame_L147 at h
                  refine iq_iload hS 149 J_MSquareRows_frame_d147 l62 rfl ?_
                  refine iq_iload_n hS 150 J_MSquareRows_frame_d149 l60 rfl ?_
                  refine iq_icmp_ge hS 153 J_MSquareRows_frame_d150 (t := 217) rfl (fun q150 => ?_) rfl (fun q150 => ?_)
                  · replace h := ed_pos q150 h
                    exact K50 _ _ hM57 l58 l59 l60 l61 (lq_r h hq50)
                  · replace h := ed_neg q150 h
                    refine iq_iload_n hS 154 J_MSquareRows_frame_d153 l61 rfl ?_
                    have J63 : ∀ (z64 : Int32) (L' : List (Nat × Value)), z64 = ((if ¬ x44 = 0 then (if ¬ x44 = (((p0 / 7) + 2) - 1) then 0 else (if ¬ x56 = 0 then 0 else 1)) else (if x56 = 0 then 1 else (if x56 = (((p0 / 7) + 2) - 1) then 1 else (if ¬ x44 = (((p0 / 7) + 2) - 1) then 0 else (if ¬ x56 = 0 then 0 else 1))))) : Int32) → im_lk L' 0 = some (.ref 108) → im_lk L' 1 = some (.int p0) → im_lk L' 2 = some (.int ((p0 / 7) + 2)) → im_lk L' 3 = some (.int x44) → im_lk L' 4 = some (.int x56) → ia (tb_G L xs) (dep + 3) J_MSquareRows_frame (rwV w Q) (187, L', [.int z64], M57) := by
                      intro z64 L' e65 l66 l67 l68 l69 l70
                      subst e65
                      refine iq_istore hS 189 J_MSquareRows_frame_d187 (by decide) rfl ?_
                      refine iq_iload hS 191 J_MSquareRows_frame_d189 lk_1s rfl ?_
                      obtain ⟨Q71, hQ71, h⟩ := bd1_ed h
                      have J71 : ∀ (M75 : im_M) (L' : List (Nat × Value)), lw_S w M75 → im_lk L' 0 = some (.ref 108) → im_lk L' 1 = some (.int p0) → im_lk L' 2 = some (.int ((p0 / 7) + 2)) → im_lk L' 3 = some (.int x44) → im_lk L' 4 = some (.int x56) → Q71 M75 → ia (tb_G L xs) (dep + 3) J_MSquareRows_frame (rwV w Q) (211, L', [], M75) := by
                        intro M75 L' hM75 l76 l77 l78 l79 l80 h
                        replace h := hQ71 _ h
                        refine iq_iincv hS 214 J_MSquareRows_frame_d211 (c := 1) (by decide +kernel) l80 (by decide) rfl ?_
                        refine iq_goto hS J_MSquareRows_frame_d214 (t := 147) rfl ?_
                        exact ih _ _ _ hM75 (lk_1r l76 (by decide)) (lk_1i l77 (by decide)) (lk_1i l78 (by decide)) (lk_1i l79 (by decide)) lk_1s (lq_l h)
                      refine iq_if_ne hS 194 J_MSquareRows_frame_d191 (t := 211) rfl (fun q191 => ?_) rfl (fun q191 => ?_)
                      · replace h := ed_pos q191 h
                        exact J71 _ _ hM57 (lk_1r l66 (by decide)) (lk_1i l67 (by decide)) (lk_1i l68 (by decide)) (lk_1i l69 (by decide)) (lk_1i l70 (by decide)) (ed_some h)
                      · replace h := ed_neg q191 h
                        refine iq_aload_n hS 195 J_MSquareRows_frame_d194 (lk_1r l66 (by decide)) rfl ?_
                        refine iq_iload_n hS 196 J_MSquareRows_frame_d195 (lk_1i l67 (by decide)) rfl ?_
                        refine iq_iload_n hS 197 J_MSquareRows_frame_d196 (lk_1i l69 (by decide)) rfl ?_
                        obtain ⟨Q72, hQ72, h⟩ := bd1_ed h
                        refine iq_cpI hS 200 J_MSquareRows_frame_d197 rfl (pr_stat (vs := [_, _]) lc_16_196 lT_421 rfl rfl (by decide) rfl (Nat.le_of_ble_eq_true rfl) (Nat.le_of_ble_eq_true rfl)) (f_MSquareRows_alignmentAt_ok (dep := dep + 1) hM57 h) rfl ?_
                        intro x72 h
                        replace h := hQ72 _ h
                        refine iq_iload_n hS 201 J_MSquareRows_frame_d200 (lk_1i l67 (by decide)) rfl ?_
                        refine iq_iload hS 203 J_MSquareRows_frame_d201 (lk_1i l70 (by decide)) rfl ?_
                        obtain ⟨Q73, hQ73, h⟩ := bd1_ed h
                        refine iq_cpI hS 206 J_MSquareRows_frame_d203 rfl (pr_stat (vs := [_, _]) lc_16_196 lT_421 rfl rfl (by decide) rfl (Nat.le_of_ble_eq_true rfl) (Nat.le_of_ble_eq_true rfl)) (f_MSquareRows_alignmentAt_ok (dep := dep + 1) hM57 h) rfl ?_
                        intro x73 h
                        replace h := hQ73 _ h
                        refine iq_iconst hS 207 J_MSquareRows_frame_d206 (v := 2) (by decide +kernel) rfl ?_
                        refine iq_iconst hS 208 J_MSquareRows_frame_d207 (v := 0) (by decide +kernel) rfl ?_
                        obtain ⟨Q74, hQ74, h⟩ := bd1_ed h
                        refine iq_cwV hS 211 J_MSquareRows_frame_d208 rfl (pr_inst (vs := [_, _, _, _]) lc_16_192 lT_419 rfl rfl (by decide) (by decide) rfl (Nat.le_of_ble_eq_true rfl) (Nat.le_of_ble_eq_true rfl) (fun _ => Or.inl (pr_b (ka_108 hM57) (by decide) rfl))) (f_MSquareRows_square_ok (dep := dep + 0) hM57 h) rfl ?_
                        intro M74 hM74 h
                        replace h := hQ74 _ h
                        exact J71 _ _ hM74 (lk_1r l66 (by decide)) (lk_1i l67 (by decide)) (lk_1i l68 (by decide)) (lk_1i l69 (by decide)) (lk_1i l70 (by decide)) (ed_some h)
                    refine iq_if_ne hS 157 J_MSquareRows_frame_d154 (t := 170) rfl (fun q154 => ?_) rfl (fun q154 => ?_)
                    · refine iq_iload_n hS 171 J_MSquareRows_frame_d170 l61 rfl ?_
                      refine iq_iload_n hS 172 J_MSquareRows_frame_d171 l60 rfl ?_
                      refine iq_iconst hS 173 J_MSquareRows_frame_d172 (v := 1) (by decide +kernel) rfl ?_
                      refine iq_isub hS 174 J_MSquareRows_frame_d173 rfl ?_
                      refine iq_icmp_ne hS 177 J_MSquareRows_frame_d174 (t := 186) rfl (fun q174 => ?_) rfl (fun q174 => ?_)
                      · refine iq_iconst hS 187 J_MSquareRows_frame_d186 (v := 0) (by decide +kernel) rfl ?_
                        exact J63 _ _ (by simp only [if_pos q154, if_pos q174]) l58 l59 l60 l61 l62
                      · refine iq_iload hS 179 J_MSquareRows_frame_d177 l62 rfl ?_
                        refine iq_if_ne hS 182 J_MSquareRows_frame_d179 (t := 186) rfl (fun q179 => ?_) rfl (fun q179 => ?_)
                        · refine iq_iconst hS 187 J_MSquareRows_frame_d186 (v := 0) (by decide +kernel) rfl ?_
                          exact J63 _ _ (by simp only [if_pos q154, if_neg q174, if_pos q179]) l58 l59 l60 l61 l62
                        · refine iq_iconst hS 183 J_MSquareRows_frame_d182 (v := 1) (by decide +kernel) rfl ?_
                          refine iq_goto hS J_MSquareRows_frame_d183 (t := 187) rfl ?_
                          exact J63 _ _ (by simp only [if_pos q154, if_neg q174, if_neg q179]) l58 l59 l60 l61 l62
                    · refine iq_iload hS 159 J_MSquareRows_frame_d157 l62 rfl ?_
                      refine iq_if_eq hS 162 J_MSquareRows_frame_d159 (t := 182) rfl (fun q159 => ?_) rfl (fun q159 => ?_)
                      · refine iq_iconst hS 183 J_MSquareRows_frame_d182 (v := 1) (by decide +kernel) rfl ?_
                        refine iq_goto hS J_MSquareRows_frame_d183 (t := 187) rfl ?_
                        exact J63 _ _ (by simp only [if_neg q154, if_pos q159]) l58 l59 l60 l61 l62
                      · refine iq_iload hS 164 J_MSquareRows_frame_d162 l62 rfl ?_
                        refine iq_iload_n hS 165 J_MSquareRows_frame_d164 l60 rfl ?_
                        refine iq_iconst hS 166 J_MSquareRows_frame_d165 (v := 1) (by decide +kernel) rfl ?_
                        refine iq_isub hS 167 J_MSquareRows_frame_d166 rfl ?_
                        refine iq_icmp_eq hS 170 J_MSquareRows_frame_d167 (t := 182) rfl (fun q167 => ?_) rfl (fun q167 => ?_)
                        · refine iq_iconst hS 183 J_MSquareRows_frame_d182 (v := 1) (by decide +kernel) rfl ?_
                          refine iq_goto hS J_MSquareRows_frame_d183 (t := 187) rfl ?_
                          exact J63 _ _ (by simp only [if_neg q154, if_neg q159, if_pos q167]) l58 l59 l60 l61 l62
                        · refine iq_iload_n hS 171 J_MSquareRows_frame_d170 l61 rfl ?_
                          refine iq_iload_n hS 172 J_MSquareRows_frame_d171 l60 rfl ?_
                          refine iq_iconst hS 173 J_MSquareRows_frame_d172 (v := 1) (by decide +kernel) rfl ?_
                          refine iq_isub hS 174 J_MSquareRows_frame_d173 rfl ?_
                          refine iq_icmp_ne hS 177 J_MSquareRows_frame_d174 (t := 186) rfl (fun q174 => ?_) rfl (fun q174 => ?_)
                          · refine iq_iconst hS 187 J_MSquareRows_frame_d186 (v := 0) (by decide +kernel) rfl ?_
                            exact J63 _ _ (by simp only [if_neg q154, if_neg q159, if_neg q167, if_pos q174]) l58 l59 l60 l61 l62
                          · refine iq_iload hS 179 J_MSquareRows_frame_d177 l62 rfl ?_
                            refine iq_if_ne hS 182 J_MSquareRows_frame_d179 (t := 186) rfl (fun q179 => ?_) rfl (fun q179 => ?_)
                            · refine iq_iconst hS 187 J_MSquareRows_frame_d186 (v := 0) (by decide +kernel) rfl ?_
                              exact J63 _ _ (by simp only [if_neg q154, if_neg q159, if_neg q167, if_neg q174, if_pos q179]) l58 l59 l60 l61 l62
                            · refine iq_iconst hS 183 J_MSquareRows_frame_d182 (v := 1) (by decide +kernel) rfl ?_
                              refine iq_goto hS J_MSquareRows_frame_d183 (t := 187) rfl ?_
                              exact J63 _ _ (by simp only [if_neg q154, if_neg q159, if_neg q167, if_neg q174, if_neg q179]) l58 l59 l60 l61 l62
              exact I50 n50 _ _ _ hM45 (lk_1r l46 (by decide)) (lk_1i l47 (by decide)) (lk_1i l48 (by decide)) (lk_1i l49 (by decide)) lk_1s hn50
      exact I13 n13 _ _ _ hM12 (lk_1r (lk_1r l8 (by decide)) (by decide)) (lk_1i (lk_1i l9 (by decide)) (by decide)) (lk_1i lk_1s (by decide)) lk_1s hn13
    obtain ⟨r6, hr6, hq6⟩ := h
    obtain ⟨n6, hn6⟩ := lp_n hr6
    have I6 : ∀ (n : Nat) (x81 : Int32) (M82 : im_M) (L' : List (Nat × Value)), lw_S w M82 → im_lk L' 0 = some (.ref 108) → im_lk L' 1 = some (.int p0) → im_lk L' 2 = some (.int x81) → lpn (uc2 (f_MSquareRows_frame_L41 p0)) n (x81, M82) = some r6 → ia (tb_G L xs) (dep + 3) J_MSquareRows_frame (rwV w Q) (41, L', [], M82) := by
      intro n
      induction n with
      | zero => intro x81 M82 L' hM82 l83 l84 l85 hn; exact (lpn_0 hn).elim
      | succ n ih =>
        intro x81 M82 L' hM82 l83 l84 l85 hn
        have h := lpn_ed2 hn
        unfold f_MSquareRows_frame_L41 at h
        refine iq_iload_n hS 42 J_MSquareRows_frame_d41 l85 rfl ?_
        refine iq_aload_n hS 43 J_MSquareRows_frame_d42 l83 rfl ?_
        refine iq_getI hS 46 J_MSquareRows_frame_d43 lf_16_163 (Or.inl rfl) (ka_108 hM82) rfl ?_
        refine iq_icmp_ge hS 49 J_MSquareRows_frame_d46 (t := 91) rfl (fun q46 => ?_) rfl (fun q46 => ?_)
        · replace h := ed_pos q46 h
          exact K6 _ _ hM82 l83 l84 (lq_r h hq6)
        · replace h := ed_neg q46 h
          refine iq_aload_n hS 50 J_MSquareRows_frame_d49 l83 rfl ?_
          refine iq_iload_n hS 51 J_MSquareRows_frame_d50 l85 rfl ?_
          refine iq_bipush hS 53 J_MSquareRows_frame_d51 (v := 6) (by decide +kernel) rfl ?_
          refine iq_iload_n hS 54 J_MSquareRows_frame_d53 l85 rfl ?_
          refine iq_iconst hS 55 J_MSquareRows_frame_d54 (v := 2) (by decide +kernel) rfl ?_
          refine iq_irem hS 56 J_MSquareRows_frame_d55 (by decide) rfl ?_
          have J86 : ∀ (z87 : Int32) (L' : List (Nat × Value)), z87 = ((if ¬ (x81 - x81 / 2 * 2) = 0 then 0 else 1) : Int32) → im_lk L' 0 = some (.ref 108) → im_lk L' 1 = some (.int p0) → im_lk L' 2 = some (.int x81) → ia (tb_G L xs) (dep + 3) J_MSquareRows_frame (rwV w Q) (64, L', [.int z87, .int 6, .int x81, .ref 108], M82) := by
            intro z87 L' e88 l89 l90 l91
            subst e88
            obtain ⟨Q92, hQ92, h⟩ := bd1_ed h
            refine iq_cwV hS 67 J_MSquareRows_frame_d64 rfl (pr_inst (vs := [_, _, _]) lc_16_185 lT_417 rfl rfl (by decide) (by decide) rfl (Nat.le_of_ble_eq_true rfl) (Nat.le_of_ble_eq_true rfl) (fun _ => Or.inl (pr_b (ka_108 hM82) (by decide) rfl))) (f_MSquareRows_fix_ok (dep := dep + 1) hM82 h) rfl ?_
            intro M92 hM92 h
            replace h := hQ92 _ h
            refine iq_aload_n hS 68 J_MSquareRows_frame_d67 l89 rfl ?_
            refine iq_bipush hS 70 J_MSquareRows_frame_d68 (v := 6) (by decide +kernel) rfl ?_
            refine iq_iload_n hS 71 J_MSquareRows_frame_d70 l91 rfl ?_
            refine iq_iload_n hS 72 J_MSquareRows_frame_d71 l91 rfl ?_
            refine iq_iconst hS 73 J_MSquareRows_frame_d72 (v := 2) (by decide +kernel) rfl ?_
            refine iq_irem hS 74 J_MSquareRows_frame_d73 (by decide) rfl ?_
            have J93 : ∀ (z94 : Int32) (L' : List (Nat × Value)), z94 = ((if ¬ (x81 - x81 / 2 * 2) = 0 then 0 else 1) : Int32) → im_lk L' 0 = some (.ref 108) → im_lk L' 1 = some (.int p0) → im_lk L' 2 = some (.int x81) → ia (tb_G L xs) (dep + 3) J_MSquareRows_frame (rwV w Q) (82, L', [.int z94, .int x81, .int 6, .ref 108], M92) := by
              intro z94 L' e95 l96 l97 l98
              subst e95
              obtain ⟨Q99, hQ99, h⟩ := bd1_ed h
              refine iq_cwV hS 85 J_MSquareRows_frame_d82 rfl (pr_inst (vs := [_, _, _]) lc_16_185 lT_417 rfl rfl (by decide) (by decide) rfl (Nat.le_of_ble_eq_true rfl) (Nat.le_of_ble_eq_true rfl) (fun _ => Or.inl (pr_b (ka_108 hM92) (by decide) rfl))) (f_MSquareRows_fix_ok (dep := dep + 1) hM92 h) rfl ?_
              intro M99 hM99 h
              replace h := hQ99 _ h
              refine iq_iincv hS 88 J_MSquareRows_frame_d85 (c := 1) (by decide +kernel) l98 (by decide) rfl ?_
              refine iq_goto hS J_MSquareRows_frame_d88 (t := 41) rfl ?_
              exact ih _ _ _ hM99 (lk_1r l96 (by decide)) (lk_1i l97 (by decide)) lk_1s (lq_l h)
            refine iq_if_ne hS 77 J_MSquareRows_frame_d74 (t := 81) rfl (fun q74 => ?_) rfl (fun q74 => ?_)
            · refine iq_iconst hS 82 J_MSquareRows_frame_d81 (v := 0) (by decide +kernel) rfl ?_
              exact J93 _ _ (by simp only [if_pos q74]) l89 l90 l91
            · refine iq_iconst hS 78 J_MSquareRows_frame_d77 (v := 1) (by decide +kernel) rfl ?_
              refine iq_goto hS J_MSquareRows_frame_d78 (t := 82) rfl ?_
              exact J93 _ _ (by simp only [if_neg q74]) l89 l90 l91
          refine iq_if_ne hS 59 J_MSquareRows_frame_d56 (t := 63) rfl (fun q56 => ?_) rfl (fun q56 => ?_)
          · refine iq_iconst hS 64 J_MSquareRows_frame_d63 (v := 0) (by decide +kernel) rfl ?_
            exact J86 _ _ (by simp only [if_pos q56]) l83 l84 l85
          · refine iq_iconst hS 60 J_MSquareRows_frame_d59 (v := 1) (by decide +kernel) rfl ?_
            refine iq_goto hS J_MSquareRows_frame_d60 (t := 64) rfl ?_
            exact J86 _ _ (by simp only [if_neg q56]) l83 l84 l85
    exact I6 n6 _ _ _ hM3 (lk_1r l4 (by decide)) (lk_1i l5 (by decide)) lk_1s hn6
  obtain ⟨r2, hr2, hq2⟩ := h
  obtain ⟨n2, hn2⟩ := lp_n hr2
  have I2 : ∀ (n : Nat) (x100 : Int32) (M101 : im_M) (L' : List (Nat × Value)), lw_S w M101 → im_lk L' 0 = some (.ref 108) → im_lk L' 1 = some (.int p0) → im_lk L' 2 = some (.int x100) → lpn (uc2 (f_MSquareRows_frame_L10 p0)) n (x100, M101) = some r2 → ia (tb_G L xs) (dep + 3) J_MSquareRows_frame (rwV w Q) (10, L', [], M101) := by
    intro n
    induction n with
    | zero => intro x100 M101 L' hM101 l102 l103 l104 hn; exact (lpn_0 hn).elim
    | succ n ih =>
      intro x100 M101 L' hM101 l102 l103 l104 hn
      have h := lpn_ed2 hn
      unfold f_MSquareRows_frame_L10 at h
      refine iq_iload_n hS 11 J_MSquareRows_frame_d10 l104 rfl ?_
      refine iq_aload_n hS 12 J_MSquareRows_frame_d11 l102 rfl ?_
      refine iq_getR hS 15 J_MSquareRows_frame_d12 lf_16_19 (Or.inr ⟨_, rfl⟩) (ka_108 hM101) (ra_108_5 hM101) rfl ?_
      refine iq_alenv hS 16 J_MSquareRows_frame_d15 (v := 31329) (ka_112 hM101) (by decide) (by decide) (kl_112 hM101) (by decide +kernel) rfl ?_
      refine iq_icmp_ge hS 19 J_MSquareRows_frame_d16 (t := 39) rfl (fun q16 => ?_) rfl (fun q16 => ?_)
      · replace h := ed_pos q16 h
        exact K2 _ _ hM101 l102 l103 (lq_r h hq2)
      · replace h := ed_neg q16 h
        refine iq_aload_n hS 20 J_MSquareRows_frame_d19 l102 rfl ?_
        refine iq_getR hS 23 J_MSquareRows_frame_d20 lf_16_19 (Or.inr ⟨_, rfl⟩) (ka_108 hM101) (ra_108_5 hM101) rfl ?_
        refine iq_iload_n hS 24 J_MSquareRows_frame_d23 l104 rfl ?_
        refine iq_iconst hS 25 J_MSquareRows_frame_d24 (v := 0) (by decide +kernel) rfl ?_
        obtain ⟨g25, h⟩ := ed_gd h
        refine iq_iastore hS 26 J_MSquareRows_frame_d25 ⟨(ka_112 hM101).1, (ka_112 hM101).2, g25.1, ix_lt (kl_112 hM101) g25.2⟩ rfl ?_
        refine iq_aload_n hS 27 J_MSquareRows_frame_d26 l102 rfl ?_
        refine iq_getR hS 30 J_MSquareRows_frame_d27 lf_16_22 (Or.inr ⟨_, rfl⟩) (ka_108 (lw_sI hM101)) (ra_108_6 (lw_sI hM101)) rfl ?_
        refine iq_iload_n hS 31 J_MSquareRows_frame_d30 l104 rfl ?_
        refine iq_iconst hS 32 J_MSquareRows_frame_d31 (v := 0) (by decide +kernel) rfl ?_
        obtain ⟨g32, h⟩ := ed_gd h
        refine iq_iastore hS 33 J_MSquareRows_frame_d32 ⟨(ka_113 (lw_sI hM101)).1, (ka_113 (lw_sI hM101)).2, g32.1, ix_lt (kl_113 (lw_sI hM101)) g32.2⟩ rfl ?_
        refine iq_iincv hS 36 J_MSquareRows_frame_d33 (c := 1) (by decide +kernel) l104 (by decide) rfl ?_
        refine iq_goto hS J_MSquareRows_frame_d36 (t := 10) rfl ?_
        exact ih _ _ _ (lw_sI (lw_sI hM101)) (lk_1r l102 (by decide)) (lk_1i l103 (by decide)) lk_1s (lq_l h)
  exact I2 n2 _ _ _ (lw_sI hM) (lk_1r l0 (by decide)) (lk_1i l1 (by decide)) lk_1s hn2
theorem f_MSquareRows_frame_fr {p0 : Int32} {M : im_M} {r : im_M} (h : f_MSquareRows_frame p0 M = some r) : fr 15576890575604482885591488987660288 [(108, 8)] M r := by
  replace h : ed (f_MSquareRows_frame p0 M) (fun x => x = r) := ⟨r, h, rfl⟩
  unfold f_MSquareRows_frame at h
  obtain ⟨Q1, hQ1, h⟩ := bd1_ed h
  obtain ⟨x1, e1, h⟩ := h
  replace h := hQ1 _ h
  obtain ⟨Q2, hQ2, h⟩ := bd1_ed h
  have K2 : ∀ (M3 : im_M), fr 15576890575604482885591488987660288 [(108, 8)] M M3 → Q2 M3 → fr 15576890575604482885591488987660288 [(108, 8)] M r := by
    intro M3 hM3 h
    replace h := hQ2 _ h
    obtain ⟨Q4, hQ4, h⟩ := bd1_ed h
    have K4 : ∀ (M5 : im_M), fr 15576890575604482885591488987660288 [(108, 8)] M M5 → Q4 M5 → fr 15576890575604482885591488987660288 [(108, 8)] M r := by
      intro M5 hM5 h
      replace h := hQ4 _ h
      obtain ⟨Q6, hQ6, h⟩ := bd1_ed h
      obtain ⟨M6, e6, h⟩ := h
      replace h := hQ6 _ h
      obtain ⟨Q7, hQ7, h⟩ := bd1_ed h
      obtain ⟨M7, e7, h⟩ := h
      replace h := hQ7 _ h
      obtain ⟨Q8, hQ8, h⟩ := bd1_ed h
      obtain ⟨M8, e8, h⟩ := h
      replace h := hQ8 _ h
      obtain ⟨Q9, hQ9, h⟩ := bd1_ed h
      have K9 : ∀ (M10 : im_M), fr 15576890575604482885591488987660288 [(108, 8)] M M10 → Q9 M10 → fr 15576890575604482885591488987660288 [(108, 8)] M r := by
        intro M10 hM10 h
        replace h := hQ9 _ h
        obtain ⟨Q11, hQ11, h⟩ := bd1_ed h
        obtain ⟨M11, e11, h⟩ := h
        replace h := hQ11 _ h
        obtain ⟨Q12, hQ12, h⟩ := bd1_ed h
        obtain ⟨M12, e12, h⟩ := h
        replace h := hQ12 _ h
        obtain ⟨Q13, hQ13, h⟩ := bd1_ed h
        obtain ⟨x13, e13, h⟩ := h
        replace h := hQ13 _ h
        obtain ⟨Q14, hQ14, h⟩ := bd1_ed h
        have K14 : ∀ (M15 : im_M), fr 15576890575604482885591488987660288 [(108, 8)] M M15 → Q14 M15 → fr 15576890575604482885591488987660288 [(108, 8)] M r := by
          intro M15 hM15 h
          replace h := hQ14 _ h
          exact fr_retV h hM15
        obtain ⟨r14, hr14, hq14⟩ := h
        obtain ⟨n14, hn14⟩ := lp_n hr14
        have I14 : ∀ (n : Nat) (x16 : Int32) (M17 : im_M), fr 15576890575604482885591488987660288 [(108, 8)] M M17 → lpn (uc2 (f_MSquareRows_frame_L255 p0 x13)) n (x16, M17) = some r14 → fr 15576890575604482885591488987660288 [(108, 8)] M r := by
          intro n
          induction n with
          | zero => intro x16 M17 hM17 hn; exact (lpn_0 hn).elim
          | succ n ih =>
            intro x16 M17 hM17 hn
            have h := lpn_ed2 hn
            unfold f_MSquareRows_frame_L255 at h
            by_cases q259 : 18 ≤ x16
            · replace h := ed_pos q259 h
              exact K14 _ hM17 (lq_r h hq14)
            · replace h := ed_neg q259 h
              by_cases q265 : p0 ≤ 6
              · replace h := ed_pos q265 h
                exact K14 _ hM17 (lq_r h hq14)
              · replace h := ed_neg q265 h
                obtain ⟨Q19, hQ19, h⟩ := bd1_ed h
                obtain ⟨M19, e19, h⟩ := h
                replace h := hQ19 _ h
                obtain ⟨Q21, hQ21, h⟩ := bd1_ed h
                obtain ⟨M21, e21, h⟩ := h
                replace h := hQ21 _ h
                exact ih _ _ (fr_tr (fr_mono (by decide) (by decide +kernel) (f_MSquareRows_fix_fr e21)) (fr_tr (fr_mono (by decide) (by decide +kernel) (f_MSquareRows_fix_fr e19)) hM17)) (lq_l h)
        exact I14 n14 _ _ (fr_tr (fr_mono (by decide) (by decide +kernel) (f_MSquareRows_fix_fr e12)) (fr_tr (fr_mono (by decide) (by decide +kernel) (f_MSquareRows_layForm_fr e11)) hM10)) hn14
      obtain ⟨r9, hr9, hq9⟩ := h
      obtain ⟨n9, hn9⟩ := lp_n hr9
      have I9 : ∀ (n : Nat) (x22 : Int32) (M23 : im_M), fr 15576890575604482885591488987660288 [(108, 8)] M M23 → lpn (uc2 (f_MSquareRows_frame_L134 p0 ((p0 / 7) + 2))) n (x22, M23) = some r9 → fr 15576890575604482885591488987660288 [(108, 8)] M r := by
        intro n
        induction n with
        | zero => intro x22 M23 hM23 hn; exact (lpn_0 hn).elim
        | succ n ih =>
          intro x22 M23 hM23 hn
          have h := lpn_ed2 hn
          unfold f_MSquareRows_frame_L134 at h
          by_cases q136 : ((p0 / 7) + 2) ≤ x22
          · replace h := ed_pos q136 h
            exact K9 _ hM23 (lq_r h hq9)
          · replace h := ed_neg q136 h
            by_cases q141 : p0 ≤ 1
            · replace h := ed_pos q141 h
              exact K9 _ hM23 (lq_r h hq9)
            · replace h := ed_neg q141 h
              obtain ⟨Q24, hQ24, h⟩ := bd1_ed h
              have K24 : ∀ (M25 : im_M), fr 15576890575604482885591488987660288 [(108, 8)] M M25 → Q24 M25 → fr 15576890575604482885591488987660288 [(108, 8)] M r := by
                intro M25 hM25 h
                replace h := hQ24 _ h
                exact ih _ _ hM25 (lq_l h)
              obtain ⟨r24, hr24, hq24⟩ := h
              obtain ⟨n24, hn24⟩ := lp_n hr24
              have I24 : ∀ (n : Nat) (x26 : Int32) (M27 : im_M), fr 15576890575604482885591488987660288 [(108, 8)] M M27 → lpn (uc2 (f_MSquareRows_frame_L147 p0 ((p0 / 7) + 2) x22)) n (x26, M27) = some r24 → fr 15576890575604482885591488987660288 [(108, 8)] M r := by
                intro n
                induction n with
                | zero => intro x26 M27 hM27 hn; exact (lpn_0 hn).elim
                | succ n ih =>
                  intro x26 M27 hM27 hn
                  have h := lpn_ed2 hn
                  unfold f_MSquareRows_frame_L147 at h
                  by_cases q150 : ((p0 / 7) + 2) ≤ x26
                  · replace h := ed_pos q150 h
                    exact K24 _ hM27 (lq_r h hq24)
                  · replace h := ed_neg q150 h
                    obtain ⟨Q29, hQ29, h⟩ := bd1_ed h
                    have J29 : ∀ (M33 : im_M), fr 15576890575604482885591488987660288 [(108, 8)] M M33 → Q29 M33 → fr 15576890575604482885591488987660288 [(108, 8)] M r := by
                      intro M33 hM33 h
                      replace h := hQ29 _ h
                      exact ih _ _ hM33 (lq_l h)
                    by_cases q191 : ¬ ((if ¬ x22 = 0 then (if ¬ x22 = (((p0 / 7) + 2) - 1) then 0 else (if ¬ x26 = 0 then 0 else 1)) else (if x26 = 0 then 1 else (if x26 = (((p0 / 7) + 2) - 1) then 1 else (if ¬ x22 = (((p0 / 7) + 2) - 1) then 0 else (if ¬ x26 = 0 then 0 else 1))))) : Int32) = 0
                    · replace h := ed_pos q191 h
                      exact J29 _ hM27 (ed_some h)
                    · replace h := ed_neg q191 h
                      obtain ⟨Q30, hQ30, h⟩ := bd1_ed h
                      obtain ⟨x30, e30, h⟩ := h
                      replace h := hQ30 _ h
                      obtain ⟨Q31, hQ31, h⟩ := bd1_ed h
                      obtain ⟨x31, e31, h⟩ := h
                      replace h := hQ31 _ h
                      obtain ⟨Q32, hQ32, h⟩ := bd1_ed h
                      obtain ⟨M32, e32, h⟩ := h
                      replace h := hQ32 _ h
                      exact J29 _ (fr_tr (fr_mono (by decide) (by decide +kernel) (f_MSquareRows_square_fr e32)) hM27) (ed_some h)
              exact I24 n24 _ _ hM23 hn24
      exact I9 n9 _ _ (fr_tr (fr_mono (by decide) (by decide +kernel) (f_MSquareRows_square_fr e8)) (fr_tr (fr_mono (by decide) (by decide +kernel) (f_MSquareRows_square_fr e7)) (fr_tr (fr_mono (by decide) (by decide +kernel) (f_MSquareRows_square_fr e6)) hM5))) hn9
    obtain ⟨r4, hr4, hq4⟩ := h
    obtain ⟨n4, hn4⟩ := lp_n hr4
    have I4 : ∀ (n : Nat) (x39 : Int32) (M40 : im_M), fr 15576890575604482885591488987660288 [(108, 8)] M M40 → lpn (uc2 (f_MSquareRows_frame_L41 p0)) n (x39, M40) = some r4 → fr 15576890575604482885591488987660288 [(108, 8)] M r := by
      intro n
      induction n with
      | zero => intro x39 M40 hM40 hn; exact (lpn_0 hn).elim
      | succ n ih =>
        intro x39 M40 hM40 hn
        have h := lpn_ed2 hn
        unfold f_MSquareRows_frame_L41 at h
        by_cases q46 : (im_i M40 108 8) ≤ x39
        · replace h := ed_pos q46 h
          exact K4 _ hM40 (lq_r h hq4)
        · replace h := ed_neg q46 h
          obtain ⟨Q42, hQ42, h⟩ := bd1_ed h
          obtain ⟨M42, e42, h⟩ := h
          replace h := hQ42 _ h
          obtain ⟨Q44, hQ44, h⟩ := bd1_ed h
          obtain ⟨M44, e44, h⟩ := h
          replace h := hQ44 _ h
          exact ih _ _ (fr_tr (fr_mono (by decide) (by decide +kernel) (f_MSquareRows_fix_fr e44)) (fr_tr (fr_mono (by decide) (by decide +kernel) (f_MSquareRows_fix_fr e42)) hM40)) (lq_l h)
    exact I4 n4 _ _ hM3 hn4
  obtain ⟨r2, hr2, hq2⟩ := h
  obtain ⟨n2, hn2⟩ := lp_n hr2
  have I2 : ∀ (n : Nat) (x45 : Int32) (M46 : im_M), fr 15576890575604482885591488987660288 [(108, 8)] M M46 → lpn (uc2 (f_MSquareRows_frame_L10 p0)) n (x45, M46) = some r2 → fr 15576890575604482885591488987660288 [(108, 8)] M r := by
    intro n
    induction n with
    | zero => intro x45 M46 hM46 hn; exact (lpn_0 hn).elim
    | succ n ih =>
      intro x45 M46 hM46 hn
      have h := lpn_ed2 hn
      unfold f_MSquareRows_frame_L10 at h
      by_cases q16 : 31329 ≤ x45
      · replace h := ed_pos q16 h
        exact K2 _ hM46 (lq_r h hq2)
      · replace h := ed_neg q16 h
        obtain ⟨g25, h⟩ := ed_gd h
        obtain ⟨g32, h⟩ := ed_gd h
        exact ih _ _ (fr_I (by decide) (fr_I (by decide) hM46)) (lq_l h)
  exact I2 n2 _ _ (fr_F (by decide) fr_refl) hn2
noncomputable def f_MSquareRows_formNumber (p0 : Int32) (p1 : Int32) (M : im_M) : Option (Int32) := some (((8 : Int32) * ((if ¬ p0 = 0 then (if ¬ p0 = 1 then (if ¬ p0 = 2 then 2 else 3) else 0) else 1) : Int32)) + p1)
theorem J_MSquareRows_formNumber_d0 : decode J_MSquareRows_formNumber.2.1 0 = .ok (.iload_n 0, 1) := by decide +kernel
theorem J_MSquareRows_formNumber_d1 : decode J_MSquareRows_formNumber.2.1 1 = .ok (.ifCond .ne 7, 3) := by decide +kernel
theorem J_MSquareRows_formNumber_d4 : decode J_MSquareRows_formNumber.2.1 4 = .ok (.iconst 1, 1) := by decide +kernel
theorem J_MSquareRows_formNumber_d5 : decode J_MSquareRows_formNumber.2.1 5 = .ok (.goto 22, 3) := by decide +kernel
theorem J_MSquareRows_formNumber_d8 : decode J_MSquareRows_formNumber.2.1 8 = .ok (.iload_n 0, 1) := by decide +kernel
theorem J_MSquareRows_formNumber_d9 : decode J_MSquareRows_formNumber.2.1 9 = .ok (.iconst 1, 1) := by decide +kernel
theorem J_MSquareRows_formNumber_d10 : decode J_MSquareRows_formNumber.2.1 10 = .ok (.if_icmp .ne 7, 3) := by decide +kernel
theorem J_MSquareRows_formNumber_d13 : decode J_MSquareRows_formNumber.2.1 13 = .ok (.iconst 0, 1) := by decide +kernel
theorem J_MSquareRows_formNumber_d14 : decode J_MSquareRows_formNumber.2.1 14 = .ok (.goto 13, 3) := by decide +kernel
theorem J_MSquareRows_formNumber_d17 : decode J_MSquareRows_formNumber.2.1 17 = .ok (.iload_n 0, 1) := by decide +kernel
theorem J_MSquareRows_formNumber_d18 : decode J_MSquareRows_formNumber.2.1 18 = .ok (.iconst 2, 1) := by decide +kernel
theorem J_MSquareRows_formNumber_d19 : decode J_MSquareRows_formNumber.2.1 19 = .ok (.if_icmp .ne 7, 3) := by decide +kernel
theorem J_MSquareRows_formNumber_d22 : decode J_MSquareRows_formNumber.2.1 22 = .ok (.iconst 3, 1) := by decide +kernel
theorem J_MSquareRows_formNumber_d23 : decode J_MSquareRows_formNumber.2.1 23 = .ok (.goto 4, 3) := by decide +kernel
theorem J_MSquareRows_formNumber_d26 : decode J_MSquareRows_formNumber.2.1 26 = .ok (.iconst 2, 1) := by decide +kernel
theorem J_MSquareRows_formNumber_d27 : decode J_MSquareRows_formNumber.2.1 27 = .ok (.istore_n 2, 1) := by decide +kernel
theorem J_MSquareRows_formNumber_d28 : decode J_MSquareRows_formNumber.2.1 28 = .ok (.bipush 8, 2) := by decide +kernel
theorem J_MSquareRows_formNumber_d30 : decode J_MSquareRows_formNumber.2.1 30 = .ok (.iload_n 2, 1) := by decide +kernel
theorem J_MSquareRows_formNumber_d31 : decode J_MSquareRows_formNumber.2.1 31 = .ok (.imul, 1) := by decide +kernel
theorem J_MSquareRows_formNumber_d32 : decode J_MSquareRows_formNumber.2.1 32 = .ok (.iload_n 1, 1) := by decide +kernel
theorem J_MSquareRows_formNumber_d33 : decode J_MSquareRows_formNumber.2.1 33 = .ok (.iadd, 1) := by decide +kernel
theorem J_MSquareRows_formNumber_d34 : decode J_MSquareRows_formNumber.2.1 34 = .ok (.ireturn, 1) := by decide +kernel
theorem f_MSquareRows_formNumber_ok {L : Nat} {xs : Nat → Int32} {dep : Nat} {w : Bool} {p0 : Int32} {p1 : Int32} {M : im_M} {Q : Int32 → Prop} (hM : lw_S w M) (h : ed (f_MSquareRows_formNumber p0 p1 M) Q) : ia (tb_G L xs) dep J_MSquareRows_formNumber (rpI M Q) (0, lv_args 0 [.int p0, .int p1], [], M) := by
  have hS : im_St (tb_G L xs) dep J_MSquareRows_formNumber (ia (tb_G L xs) dep J_MSquareRows_formNumber (rpI M Q)) := ia_St
  unfold f_MSquareRows_formNumber at h
  have l0 : im_lk (lv_args 0 [.int p0, .int p1]) 0 = some (.int p0) := rfl
  have l1 : im_lk (lv_args 0 [.int p0, .int p1]) 1 = some (.int p1) := rfl
  refine iq_iload_n hS 1 J_MSquareRows_formNumber_d0 l0 rfl ?_
  have J1 : ∀ (z2 : Int32) (L' : List (Nat × Value)), z2 = ((if ¬ p0 = 0 then (if ¬ p0 = 1 then (if ¬ p0 = 2 then 2 else 3) else 0) else 1) : Int32) → im_lk L' 1 = some (.int p1) → ia (tb_G L xs) dep J_MSquareRows_formNumber (rpI M Q) (27, L', [.int z2], M) := by
    intro z2 L' e3 l4
    subst e3
    refine iq_istore_n hS 28 J_MSquareRows_formNumber_d27 (by decide) rfl ?_
    refine iq_bipush hS 30 J_MSquareRows_formNumber_d28 (v := 8) (by decide +kernel) rfl ?_
    refine iq_iload_n hS 31 J_MSquareRows_formNumber_d30 lk_1s rfl ?_
    refine iq_imul hS 32 J_MSquareRows_formNumber_d31 rfl ?_
    refine iq_iload_n hS 33 J_MSquareRows_formNumber_d32 (lk_1i l4 (by decide)) rfl ?_
    refine iq_iadd hS 34 J_MSquareRows_formNumber_d33 rfl ?_
    exact iq_iret J_MSquareRows_formNumber_d34 rfl rfl ⟨_, rfl, rfl, ed_some h⟩
  refine iq_if_ne hS 4 J_MSquareRows_formNumber_d1 (t := 8) rfl (fun q1 => ?_) rfl (fun q1 => ?_)
  · refine iq_iload_n hS 9 J_MSquareRows_formNumber_d8 l0 rfl ?_
    refine iq_iconst hS 10 J_MSquareRows_formNumber_d9 (v := 1) (by decide +kernel) rfl ?_
    refine iq_icmp_ne hS 13 J_MSquareRows_formNumber_d10 (t := 17) rfl (fun q10 => ?_) rfl (fun q10 => ?_)
    · refine iq_iload_n hS 18 J_MSquareRows_formNumber_d17 l0 rfl ?_
      refine iq_iconst hS 19 J_MSquareRows_formNumber_d18 (v := 2) (by decide +kernel) rfl ?_
      refine iq_icmp_ne hS 22 J_MSquareRows_formNumber_d19 (t := 26) rfl (fun q19 => ?_) rfl (fun q19 => ?_)
      · refine iq_iconst hS 27 J_MSquareRows_formNumber_d26 (v := 2) (by decide +kernel) rfl ?_
        exact J1 _ _ (by simp only [if_pos q1, if_pos q10, if_pos q19]) l1
      · refine iq_iconst hS 23 J_MSquareRows_formNumber_d22 (v := 3) (by decide +kernel) rfl ?_
        refine iq_goto hS J_MSquareRows_formNumber_d23 (t := 27) rfl ?_
        exact J1 _ _ (by simp only [if_pos q1, if_pos q10, if_neg q19]) l1
    · refine iq_iconst hS 14 J_MSquareRows_formNumber_d13 (v := 0) (by decide +kernel) rfl ?_
      refine iq_goto hS J_MSquareRows_formNumber_d14 (t := 27) rfl ?_
      exact J1 _ _ (by simp only [if_pos q1, if_neg q10]) l1
  · refine iq_iconst hS 5 J_MSquareRows_formNumber_d4 (v := 1) (by decide +kernel) rfl ?_
    refine iq_goto hS J_MSquareRows_formNumber_d5 (t := 27) rfl ?_
    exact J1 _ _ (by simp only [if_neg q1]) l1
noncomputable def f_MSquareRows_masked (p0 : Int32) (p1 : Int32) (p2 : Int32) (M : im_M) : Option (Int32) := if p0 = 0 then if ¬ ((p1 + p2) - (p1 + p2) / 2 * 2) = 0 then some 0 else some 1 else if p0 = 1 then if ¬ (p2 - p2 / 2 * 2) = 0 then some 0 else some 1 else if p0 = 2 then if ¬ (p1 - p1 / 3 * 3) = 0 then some 0 else some 1 else if p0 = 3 then if ¬ ((p1 + p2) - (p1 + p2) / 3 * 3) = 0 then some 0 else some 1 else if p0 = 4 then if ¬ (((p1 / 3) + (p2 / 2)) - ((p1 / 3) + (p2 / 2)) / 2 * 2) = 0 then some 0 else some 1 else if p0 = 5 then if ¬ (((p1 * p2) - (p1 * p2) / 2 * 2) + ((p1 * p2) - (p1 * p2) / 3 * 3)) = 0 then some 0 else some 1 else if p0 = 6 then if ¬ ((((p1 * p2) - (p1 * p2) / 2 * 2) + ((p1 * p2) - (p1 * p2) / 3 * 3)) - (((p1 * p2) - (p1 * p2) / 2 * 2) + ((p1 * p2) - (p1 * p2) / 3 * 3)) / 2 * 2) = 0 then some 0 else some 1 else if ¬ ((((p1 + p2) - (p1 + p2) / 2 * 2) + ((p1 * p2) - (p1 * p2) / 3 * 3)) - (((p1 + p2) - (p1 + p2) / 2 * 2) + ((p1 * p2) - (p1 * p2) / 3 * 3)) / 2 * 2) = 0 then some 0 else some 1
theorem J_MSquareRows_masked_d0 : decode J_MSquareRows_masked.2.1 0 = .ok (.iload_n 0, 1) := by decide +kernel
theorem J_MSquareRows_masked_d1 : decode J_MSquareRows_masked.2.1 1 = .ok (.tableswitch 155 0 6 #[43, 57, 69, 81, 95, 113, 133], 43) := by decide +kernel
theorem J_MSquareRows_masked_d44 : decode J_MSquareRows_masked.2.1 44 = .ok (.iload_n 1, 1) := by decide +kernel
theorem J_MSquareRows_masked_d45 : decode J_MSquareRows_masked.2.1 45 = .ok (.iload_n 2, 1) := by decide +kernel
theorem J_MSquareRows_masked_d46 : decode J_MSquareRows_masked.2.1 46 = .ok (.iadd, 1) := by decide +kernel
theorem J_MSquareRows_masked_d47 : decode J_MSquareRows_masked.2.1 47 = .ok (.iconst 2, 1) := by decide +kernel
theorem J_MSquareRows_masked_d48 : decode J_MSquareRows_masked.2.1 48 = .ok (.irem, 1) := by decide +kernel
theorem J_MSquareRows_masked_d49 : decode J_MSquareRows_masked.2.1 49 = .ok (.ifCond .ne 7, 3) := by decide +kernel
theorem J_MSquareRows_masked_d52 : decode J_MSquareRows_masked.2.1 52 = .ok (.iconst 1, 1) := by decide +kernel
theorem J_MSquareRows_masked_d53 : decode J_MSquareRows_masked.2.1 53 = .ok (.goto 4, 3) := by decide +kernel
theorem J_MSquareRows_masked_d56 : decode J_MSquareRows_masked.2.1 56 = .ok (.iconst 0, 1) := by decide +kernel
theorem J_MSquareRows_masked_d57 : decode J_MSquareRows_masked.2.1 57 = .ok (.ireturn, 1) := by decide +kernel
theorem J_MSquareRows_masked_d58 : decode J_MSquareRows_masked.2.1 58 = .ok (.iload_n 2, 1) := by decide +kernel
theorem J_MSquareRows_masked_d59 : decode J_MSquareRows_masked.2.1 59 = .ok (.iconst 2, 1) := by decide +kernel
theorem J_MSquareRows_masked_d60 : decode J_MSquareRows_masked.2.1 60 = .ok (.irem, 1) := by decide +kernel
theorem J_MSquareRows_masked_d61 : decode J_MSquareRows_masked.2.1 61 = .ok (.ifCond .ne 7, 3) := by decide +kernel
theorem J_MSquareRows_masked_d64 : decode J_MSquareRows_masked.2.1 64 = .ok (.iconst 1, 1) := by decide +kernel
theorem J_MSquareRows_masked_d65 : decode J_MSquareRows_masked.2.1 65 = .ok (.goto 4, 3) := by decide +kernel
theorem J_MSquareRows_masked_d68 : decode J_MSquareRows_masked.2.1 68 = .ok (.iconst 0, 1) := by decide +kernel
theorem J_MSquareRows_masked_d69 : decode J_MSquareRows_masked.2.1 69 = .ok (.ireturn, 1) := by decide +kernel
theorem J_MSquareRows_masked_d70 : decode J_MSquareRows_masked.2.1 70 = .ok (.iload_n 1, 1) := by decide +kernel
theorem J_MSquareRows_masked_d71 : decode J_MSquareRows_masked.2.1 71 = .ok (.iconst 3, 1) := by decide +kernel
theorem J_MSquareRows_masked_d72 : decode J_MSquareRows_masked.2.1 72 = .ok (.irem, 1) := by decide +kernel
theorem J_MSquareRows_masked_d73 : decode J_MSquareRows_masked.2.1 73 = .ok (.ifCond .ne 7, 3) := by decide +kernel
theorem J_MSquareRows_masked_d76 : decode J_MSquareRows_masked.2.1 76 = .ok (.iconst 1, 1) := by decide +kernel
theorem J_MSquareRows_masked_d77 : decode J_MSquareRows_masked.2.1 77 = .ok (.goto 4, 3) := by decide +kernel
theorem J_MSquareRows_masked_d80 : decode J_MSquareRows_masked.2.1 80 = .ok (.iconst 0, 1) := by decide +kernel
theorem J_MSquareRows_masked_d81 : decode J_MSquareRows_masked.2.1 81 = .ok (.ireturn, 1) := by decide +kernel
theorem J_MSquareRows_masked_d82 : decode J_MSquareRows_masked.2.1 82 = .ok (.iload_n 1, 1) := by decide +kernel
theorem J_MSquareRows_masked_d83 : decode J_MSquareRows_masked.2.1 83 = .ok (.iload_n 2, 1) := by decide +kernel
theorem J_MSquareRows_masked_d84 : decode J_MSquareRows_masked.2.1 84 = .ok (.iadd, 1) := by decide +kernel
theorem J_MSquareRows_masked_d85 : decode J_MSquareRows_masked.2.1 85 = .ok (.iconst 3, 1) := by decide +kernel
theorem J_MSquareRows_masked_d86 : decode J_MSquareRows_masked.2.1 86 = .ok (.irem, 1) := by decide +kernel
theorem J_MSquareRows_masked_d87 : decode J_MSquareRows_masked.2.1 87 = .ok (.ifCond .ne 7, 3) := by decide +kernel
theorem J_MSquareRows_masked_d90 : decode J_MSquareRows_masked.2.1 90 = .ok (.iconst 1, 1) := by decide +kernel
theorem J_MSquareRows_masked_d91 : decode J_MSquareRows_masked.2.1 91 = .ok (.goto 4, 3) := by decide +kernel
theorem J_MSquareRows_masked_d94 : decode J_MSquareRows_masked.2.1 94 = .ok (.iconst 0, 1) := by decide +kernel
theorem J_MSquareRows_masked_d95 : decode J_MSquareRows_masked.2.1 95 = .ok (.ireturn, 1) := by decide +kernel
theorem J_MSquareRows_masked_d96 : decode J_MSquareRows_masked.2.1 96 = .ok (.iload_n 1, 1) := by decide +kernel
theorem J_MSquareRows_masked_d97 : decode J_MSquareRows_masked.2.1 97 = .ok (.iconst 3, 1) := by decide +kernel
theorem J_MSquareRows_masked_d98 : decode J_MSquareRows_masked.2.1 98 = .ok (.idiv, 1) := by decide +kernel
theorem J_MSquareRows_masked_d99 : decode J_MSquareRows_masked.2.1 99 = .ok (.iload_n 2, 1) := by decide +kernel
theorem J_MSquareRows_masked_d100 : decode J_MSquareRows_masked.2.1 100 = .ok (.iconst 2, 1) := by decide +kernel
theorem J_MSquareRows_masked_d101 : decode J_MSquareRows_masked.2.1 101 = .ok (.idiv, 1) := by decide +kernel
theorem J_MSquareRows_masked_d102 : decode J_MSquareRows_masked.2.1 102 = .ok (.iadd, 1) := by decide +kernel
theorem J_MSquareRows_masked_d103 : decode J_MSquareRows_masked.2.1 103 = .ok (.iconst 2, 1) := by decide +kernel
theorem J_MSquareRows_masked_d104 : decode J_MSquareRows_masked.2.1 104 = .ok (.irem, 1) := by decide +kernel
theorem J_MSquareRows_masked_d105 : decode J_MSquareRows_masked.2.1 105 = .ok (.ifCond .ne 7, 3) := by decide +kernel
theorem J_MSquareRows_masked_d108 : decode J_MSquareRows_masked.2.1 108 = .ok (.iconst 1, 1) := by decide +kernel
theorem J_MSquareRows_masked_d109 : decode J_MSquareRows_masked.2.1 109 = .ok (.goto 4, 3) := by decide +kernel
theorem J_MSquareRows_masked_d112 : decode J_MSquareRows_masked.2.1 112 = .ok (.iconst 0, 1) := by decide +kernel
theorem J_MSquareRows_masked_d113 : decode J_MSquareRows_masked.2.1 113 = .ok (.ireturn, 1) := by decide +kernel
theorem J_MSquareRows_masked_d114 : decode J_MSquareRows_masked.2.1 114 = .ok (.iload_n 1, 1) := by decide +kernel
theorem J_MSquareRows_masked_d115 : decode J_MSquareRows_masked.2.1 115 = .ok (.iload_n 2, 1) := by decide +kernel
theorem J_MSquareRows_masked_d116 : decode J_MSquareRows_masked.2.1 116 = .ok (.imul, 1) := by decide +kernel
theorem J_MSquareRows_masked_d117 : decode J_MSquareRows_masked.2.1 117 = .ok (.iconst 2, 1) := by decide +kernel
theorem J_MSquareRows_masked_d118 : decode J_MSquareRows_masked.2.1 118 = .ok (.irem, 1) := by decide +kernel
theorem J_MSquareRows_masked_d119 : decode J_MSquareRows_masked.2.1 119 = .ok (.iload_n 1, 1) := by decide +kernel
theorem J_MSquareRows_masked_d120 : decode J_MSquareRows_masked.2.1 120 = .ok (.iload_n 2, 1) := by decide +kernel
theorem J_MSquareRows_masked_d121 : decode J_MSquareRows_masked.2.1 121 = .ok (.imul, 1) := by decide +kernel
theorem J_MSquareRows_masked_d122 : decode J_MSquareRows_masked.2.1 122 = .ok (.iconst 3, 1) := by decide +kernel
theorem J_MSquareRows_masked_d123 : decode J_MSquareRows_masked.2.1 123 = .ok (.irem, 1) := by decide +kernel
theorem J_MSquareRows_masked_d124 : decode J_MSquareRows_masked.2.1 124 = .ok (.iadd, 1) := by decide +kernel
theorem J_MSquareRows_masked_d125 : decode J_MSquareRows_masked.2.1 125 = .ok (.ifCond .ne 7, 3) := by decide +kernel
theorem J_MSquareRows_masked_d128 : decode J_MSquareRows_masked.2.1 128 = .ok (.iconst 1, 1) := by decide +kernel
theorem J_MSquareRows_masked_d129 : decode J_MSquareRows_masked.2.1 129 = .ok (.goto 4, 3) := by decide +kernel
theorem J_MSquareRows_masked_d132 : decode J_MSquareRows_masked.2.1 132 = .ok (.iconst 0, 1) := by decide +kernel
theorem J_MSquareRows_masked_d133 : decode J_MSquareRows_masked.2.1 133 = .ok (.ireturn, 1) := by decide +kernel
theorem J_MSquareRows_masked_d134 : decode J_MSquareRows_masked.2.1 134 = .ok (.iload_n 1, 1) := by decide +kernel
theorem J_MSquareRows_masked_d135 : decode J_MSquareRows_masked.2.1 135 = .ok (.iload_n 2, 1) := by decide +kernel
theorem J_MSquareRows_masked_d136 : decode J_MSquareRows_masked.2.1 136 = .ok (.imul, 1) := by decide +kernel
theorem J_MSquareRows_masked_d137 : decode J_MSquareRows_masked.2.1 137 = .ok (.iconst 2, 1) := by decide +kernel
theorem J_MSquareRows_masked_d138 : decode J_MSquareRows_masked.2.1 138 = .ok (.irem, 1) := by decide +kernel
theorem J_MSquareRows_masked_d139 : decode J_MSquareRows_masked.2.1 139 = .ok (.iload_n 1, 1) := by decide +kernel
theorem J_MSquareRows_masked_d140 : decode J_MSquareRows_masked.2.1 140 = .ok (.iload_n 2, 1) := by decide +kernel
theorem J_MSquareRows_masked_d141 : decode J_MSquareRows_masked.2.1 141 = .ok (.imul, 1) := by decide +kernel
theorem J_MSquareRows_masked_d142 : decode J_MSquareRows_masked.2.1 142 = .ok (.iconst 3, 1) := by decide +kernel
theorem J_MSquareRows_masked_d143 : decode J_MSquareRows_masked.2.1 143 = .ok (.irem, 1) := by decide +kernel
theorem J_MSquareRows_masked_d144 : decode J_MSquareRows_masked.2.1 144 = .ok (.iadd, 1) := by decide +kernel
theorem J_MSquareRows_masked_d145 : decode J_MSquareRows_masked.2.1 145 = .ok (.iconst 2, 1) := by decide +kernel
theorem J_MSquareRows_masked_d146 : decode J_MSquareRows_masked.2.1 146 = .ok (.irem, 1) := by decide +kernel
theorem J_MSquareRows_masked_d147 : decode J_MSquareRows_masked.2.1 147 = .ok (.ifCond .ne 7, 3) := by decide +kernel
theorem J_MSquareRows_masked_d150 : decode J_MSquareRows_masked.2.1 150 = .ok (.iconst 1, 1) := by decide +kernel
theorem J_MSquareRows_masked_d151 : decode J_MSquareRows_masked.2.1 151 = .ok (.goto 4, 3) := by decide +kernel
theorem J_MSquareRows_masked_d154 : decode J_MSquareRows_masked.2.1 154 = .ok (.iconst 0, 1) := by decide +kernel
theorem J_MSquareRows_masked_d155 : decode J_MSquareRows_masked.2.1 155 = .ok (.ireturn, 1) := by decide +kernel
theorem J_MSquareRows_masked_d156 : decode J_MSquareRows_masked.2.1 156 = .ok (.iload_n 1, 1) := by decide +kernel
theorem J_MSquareRows_masked_d157 : decode J_MSquareRows_masked.2.1 157 = .ok (.iload_n 2, 1) := by decide +kernel
theorem J_MSquareRows_masked_d158 : decode J_MSquareRows_masked.2.1 158 = .ok (.iadd, 1) := by decide +kernel
theorem J_MSquareRows_masked_d159 : decode J_MSquareRows_masked.2.1 159 = .ok (.iconst 2, 1) := by decide +kernel
theorem J_MSquareRows_masked_d160 : decode J_MSquareRows_masked.2.1 160 = .ok (.irem, 1) := by decide +kernel
theorem J_MSquareRows_masked_d161 : decode J_MSquareRows_masked.2.1 161 = .ok (.iload_n 1, 1) := by decide +kernel
theorem J_MSquareRows_masked_d162 : decode J_MSquareRows_masked.2.1 162 = .ok (.iload_n 2, 1) := by decide +kernel
theorem J_MSquareRows_masked_d163 : decode J_MSquareRows_masked.2.1 163 = .ok (.imul, 1) := by decide +kernel
theorem J_MSquareRows_masked_d164 : decode J_MSquareRows_masked.2.1 164 = .ok (.iconst 3, 1) := by decide +kernel
theorem J_MSquareRows_masked_d165 : decode J_MSquareRows_masked.2.1 165 = .ok (.irem, 1) := by decide +kernel
theorem J_MSquareRows_masked_d166 : decode J_MSquareRows_masked.2.1 166 = .ok (.iadd, 1) := by decide +kernel
theorem J_MSquareRows_masked_d167 : decode J_MSquareRows_masked.2.1 167 = .ok (.iconst 2, 1) := by decide +kernel
theorem J_MSquareRows_masked_d168 : decode J_MSquareRows_masked.2.1 168 = .ok (.irem, 1) := by decide +kernel
theorem J_MSquareRows_masked_d169 : decode J_MSquareRows_masked.2.1 169 = .ok (.ifCond .ne 7, 3) := by decide +kernel
theorem J_MSquareRows_masked_d172 : decode J_MSquareRows_masked.2.1 172 = .ok (.iconst 1, 1) := by decide +kernel
theorem J_MSquareRows_masked_d173 : decode J_MSquareRows_masked.2.1 173 = .ok (.goto 4, 3) := by decide +kernel
theorem J_MSquareRows_masked_d176 : decode J_MSquareRows_masked.2.1 176 = .ok (.iconst 0, 1) := by decide +kernel
theorem J_MSquareRows_masked_d177 : decode J_MSquareRows_masked.2.1 177 = .ok (.ireturn, 1) := by decide +kernel
theorem f_MSquareRows_masked_ok {L : Nat} {xs : Nat → Int32} {dep : Nat} {w : Bool} {p0 : Int32} {p1 : Int32} {p2 : Int32} {M : im_M} {Q : Int32 → Prop} (hM : lw_S w M) (h : ed (f_MSquareRows_masked p0 p1 p2 M) Q) : ia (tb_G L xs) dep J_MSquareRows_masked (rpI M Q) (0, lv_args 0 [.int p0, .int p1, .int p2], [], M) := by
  have hS : im_St (tb_G L xs) dep J_MSquareRows_masked (ia (tb_G L xs) dep J_MSquareRows_masked (rpI M Q)) := ia_St
  unfold f_MSquareRows_masked at h
  have l0 : im_lk (lv_args 0 [.int p0, .int p1, .int p2]) 0 = some (.int p0) := rfl
  have l1 : im_lk (lv_args 0 [.int p0, .int p1, .int p2]) 1 = some (.int p1) := rfl
  have l2 : im_lk (lv_args 0 [.int p0, .int p1, .int p2]) 2 = some (.int p2) := rfl
  refine iq_iload_n hS 1 J_MSquareRows_masked_d0 l0 rfl ?_
  by_cases q1_0 : p0 = 0
  · replace h := ed_pos q1_0 h
    refine iq_tsw hS J_MSquareRows_masked_d1 (t := 44) (sw_v q1_0 (by decide +kernel)) ?_
    refine iq_iload_n hS 45 J_MSquareRows_masked_d44 l1 rfl ?_
    refine iq_iload_n hS 46 J_MSquareRows_masked_d45 l2 rfl ?_
    refine iq_iadd hS 47 J_MSquareRows_masked_d46 rfl ?_
    refine iq_iconst hS 48 J_MSquareRows_masked_d47 (v := 2) (by decide +kernel) rfl ?_
    refine iq_irem hS 49 J_MSquareRows_masked_d48 (by decide) rfl ?_
    refine iq_if_ne hS 52 J_MSquareRows_masked_d49 (t := 56) rfl (fun q49 => ?_) rfl (fun q49 => ?_)
    · replace h := ed_pos q49 h
      refine iq_iconst hS 57 J_MSquareRows_masked_d56 (v := 0) (by decide +kernel) rfl ?_
      exact iq_iret J_MSquareRows_masked_d57 rfl rfl ⟨_, rfl, rfl, ed_some h⟩
    · replace h := ed_neg q49 h
      refine iq_iconst hS 53 J_MSquareRows_masked_d52 (v := 1) (by decide +kernel) rfl ?_
      refine iq_goto hS J_MSquareRows_masked_d53 (t := 57) rfl ?_
      exact iq_iret J_MSquareRows_masked_d57 rfl rfl ⟨_, rfl, rfl, ed_some h⟩
  replace h := ed_neg q1_0 h
  by_cases q1_1 : p0 = 1
  · replace h := ed_pos q1_1 h
    refine iq_tsw hS J_MSquareRows_masked_d1 (t := 58) (sw_v q1_1 (by decide +kernel)) ?_
    refine iq_iload_n hS 59 J_MSquareRows_masked_d58 l2 rfl ?_
    refine iq_iconst hS 60 J_MSquareRows_masked_d59 (v := 2) (by decide +kernel) rfl ?_
    refine iq_irem hS 61 J_MSquareRows_masked_d60 (by decide) rfl ?_
    refine iq_if_ne hS 64 J_MSquareRows_masked_d61 (t := 68) rfl (fun q61 => ?_) rfl (fun q61 => ?_)
    · replace h := ed_pos q61 h
      refine iq_iconst hS 69 J_MSquareRows_masked_d68 (v := 0) (by decide +kernel) rfl ?_
      exact iq_iret J_MSquareRows_masked_d69 rfl rfl ⟨_, rfl, rfl, ed_some h⟩
    · replace h := ed_neg q61 h
      refine iq_iconst hS 65 J_MSquareRows_masked_d64 (v := 1) (by decide +kernel) rfl ?_
      refine iq_goto hS J_MSquareRows_masked_d65 (t := 69) rfl ?_
      exact iq_iret J_MSquareRows_masked_d69 rfl rfl ⟨_, rfl, rfl, ed_some h⟩
  replace h := ed_neg q1_1 h
  by_cases q1_2 : p0 = 2
  · replace h := ed_pos q1_2 h
    refine iq_tsw hS J_MSquareRows_masked_d1 (t := 70) (sw_v q1_2 (by decide +kernel)) ?_
    refine iq_iload_n hS 71 J_MSquareRows_masked_d70 l1 rfl ?_
    refine iq_iconst hS 72 J_MSquareRows_masked_d71 (v := 3) (by decide +kernel) rfl ?_
    refine iq_irem hS 73 J_MSquareRows_masked_d72 (by decide) rfl ?_
    refine iq_if_ne hS 76 J_MSquareRows_masked_d73 (t := 80) rfl (fun q73 => ?_) rfl (fun q73 => ?_)
    · replace h := ed_pos q73 h
      refine iq_iconst hS 81 J_MSquareRows_masked_d80 (v := 0) (by decide +kernel) rfl ?_
      exact iq_iret J_MSquareRows_masked_d81 rfl rfl ⟨_, rfl, rfl, ed_some h⟩
    · replace h := ed_neg q73 h
      refine iq_iconst hS 77 J_MSquareRows_masked_d76 (v := 1) (by decide +kernel) rfl ?_
      refine iq_goto hS J_MSquareRows_masked_d77 (t := 81) rfl ?_
      exact iq_iret J_MSquareRows_masked_d81 rfl rfl ⟨_, rfl, rfl, ed_some h⟩
  replace h := ed_neg q1_2 h
  by_cases q1_3 : p0 = 3
  · replace h := ed_pos q1_3 h
    refine iq_tsw hS J_MSquareRows_masked_d1 (t := 82) (sw_v q1_3 (by decide +kernel)) ?_
    refine iq_iload_n hS 83 J_MSquareRows_masked_d82 l1 rfl ?_
    refine iq_iload_n hS 84 J_MSquareRows_masked_d83 l2 rfl ?_
    refine iq_iadd hS 85 J_MSquareRows_masked_d84 rfl ?_
    refine iq_iconst hS 86 J_MSquareRows_masked_d85 (v := 3) (by decide +kernel) rfl ?_
    refine iq_irem hS 87 J_MSquareRows_masked_d86 (by decide) rfl ?_
    refine iq_if_ne hS 90 J_MSquareRows_masked_d87 (t := 94) rfl (fun q87 => ?_) rfl (fun q87 => ?_)
    · replace h := ed_pos q87 h
      refine iq_iconst hS 95 J_MSquareRows_masked_d94 (v := 0) (by decide +kernel) rfl ?_
      exact iq_iret J_MSquareRows_masked_d95 rfl rfl ⟨_, rfl, rfl, ed_some h⟩
    · replace h := ed_neg q87 h
      refine iq_iconst hS 91 J_MSquareRows_masked_d90 (v := 1) (by decide +kernel) rfl ?_
      refine iq_goto hS J_MSquareRows_masked_d91 (t := 95) rfl ?_
      exact iq_iret J_MSquareRows_masked_d95 rfl rfl ⟨_, rfl, rfl, ed_some h⟩
  replace h := ed_neg q1_3 h
  by_cases q1_4 : p0 = 4
  · replace h := ed_pos q1_4 h
    refine iq_tsw hS J_MSquareRows_masked_d1 (t := 96) (sw_v q1_4 (by decide +kernel)) ?_
    refine iq_iload_n hS 97 J_MSquareRows_masked_d96 l1 rfl ?_
    refine iq_iconst hS 98 J_MSquareRows_masked_d97 (v := 3) (by decide +kernel) rfl ?_
    refine iq_idiv hS 99 J_MSquareRows_masked_d98 (by decide) rfl ?_
    refine iq_iload_n hS 100 J_MSquareRows_masked_d99 l2 rfl ?_
    refine iq_iconst hS 101 J_MSquareRows_masked_d100 (v := 2) (by decide +kernel) rfl ?_
    refine iq_idiv hS 102 J_MSquareRows_masked_d101 (by decide) rfl ?_
    refine iq_iadd hS 103 J_MSquareRows_masked_d102 rfl ?_
    refine iq_iconst hS 104 J_MSquareRows_masked_d103 (v := 2) (by decide +kernel) rfl ?_
    refine iq_irem hS 105 J_MSquareRows_masked_d104 (by decide) rfl ?_
    refine iq_if_ne hS 108 J_MSquareRows_masked_d105 (t := 112) rfl (fun q105 => ?_) rfl (fun q105 => ?_)
    · replace h := ed_pos q105 h
      refine iq_iconst hS 113 J_MSquareRows_masked_d112 (v := 0) (by decide +kernel) rfl ?_
      exact iq_iret J_MSquareRows_masked_d113 rfl rfl ⟨_, rfl, rfl, ed_some h⟩
    · replace h := ed_neg q105 h
      refine iq_iconst hS 109 J_MSquareRows_masked_d108 (v := 1) (by decide +kernel) rfl ?_
      refine iq_goto hS J_MSquareRows_masked_d109 (t := 113) rfl ?_
      exact iq_iret J_MSquareRows_masked_d113 rfl rfl ⟨_, rfl, rfl, ed_some h⟩
  replace h := ed_neg q1_4 h
  by_cases q1_5 : p0 = 5
  · replace h := ed_pos q1_5 h
    refine iq_tsw hS J_MSquareRows_masked_d1 (t := 114) (sw_v q1_5 (by decide +kernel)) ?_
    refine iq_iload_n hS 115 J_MSquareRows_masked_d114 l1 rfl ?_
    refine iq_iload_n hS 116 J_MSquareRows_masked_d115 l2 rfl ?_
    refine iq_imul hS 117 J_MSquareRows_masked_d116 rfl ?_
    refine iq_iconst hS 118 J_MSquareRows_masked_d117 (v := 2) (by decide +kernel) rfl ?_
    refine iq_irem hS 119 J_MSquareRows_masked_d118 (by decide) rfl ?_
    refine iq_iload_n hS 120 J_MSquareRows_masked_d119 l1 rfl ?_
    refine iq_iload_n hS 121 J_MSquareRows_masked_d120 l2 rfl ?_
    refine iq_imul hS 122 J_MSquareRows_masked_d121 rfl ?_
    refine iq_iconst hS 123 J_MSquareRows_masked_d122 (v := 3) (by decide +kernel) rfl ?_
    refine iq_irem hS 124 J_MSquareRows_masked_d123 (by decide) rfl ?_
    refine iq_iadd hS 125 J_MSquareRows_masked_d124 rfl ?_
    refine iq_if_ne hS 128 J_MSquareRows_masked_d125 (t := 132) rfl (fun q125 => ?_) rfl (fun q125 => ?_)
    · replace h := ed_pos q125 h
      refine iq_iconst hS 133 J_MSquareRows_masked_d132 (v := 0) (by decide +kernel) rfl ?_
      exact iq_iret J_MSquareRows_masked_d133 rfl rfl ⟨_, rfl, rfl, ed_some h⟩
    · replace h := ed_neg q125 h
      refine iq_iconst hS 129 J_MSquareRows_masked_d128 (v := 1) (by decide +kernel) rfl ?_
      refine iq_goto hS J_MSquareRows_masked_d129 (t := 133) rfl ?_
      exact iq_iret J_MSquareRows_masked_d133 rfl rfl ⟨_, rfl, rfl, ed_some h⟩
  replace h := ed_neg q1_5 h
  by_cases q1_6 : p0 = 6
  · replace h := ed_pos q1_6 h
    refine iq_tsw hS J_MSquareRows_masked_d1 (t := 134) (sw_v q1_6 (by decide +kernel)) ?_
    refine iq_iload_n hS 135 J_MSquareRows_masked_d134 l1 rfl ?_
    refine iq_iload_n hS 136 J_MSquareRows_masked_d135 l2 rfl ?_
    refine iq_imul hS 137 J_MSquareRows_masked_d136 rfl ?_
    refine iq_iconst hS 138 J_MSquareRows_masked_d137 (v := 2) (by decide +kernel) rfl ?_
    refine iq_irem hS 139 J_MSquareRows_masked_d138 (by decide) rfl ?_
    refine iq_iload_n hS 140 J_MSquareRows_masked_d139 l1 rfl ?_
    refine iq_iload_n hS 141 J_MSquareRows_masked_d140 l2 rfl ?_
    refine iq_imul hS 142 J_MSquareRows_masked_d141 rfl ?_
    refine iq_iconst hS 143 J_MSquareRows_masked_d142 (v := 3) (by decide +kernel) rfl ?_
    refine iq_irem hS 144 J_MSquareRows_masked_d143 (by decide) rfl ?_
    refine iq_iadd hS 145 J_MSquareRows_masked_d144 rfl ?_
    refine iq_iconst hS 146 J_MSquareRows_masked_d145 (v := 2) (by decide +kernel) rfl ?_
    refine iq_irem hS 147 J_MSquareRows_masked_d146 (by decide) rfl ?_
    refine iq_if_ne hS 150 J_MSquareRows_masked_d147 (t := 154) rfl (fun q147 => ?_) rfl (fun q147 => ?_)
    · replace h := ed_pos q147 h
      refine iq_iconst hS 155 J_MSquareRows_masked_d154 (v := 0) (by decide +kernel) rfl ?_
      exact iq_iret J_MSquareRows_masked_d155 rfl rfl ⟨_, rfl, rfl, ed_some h⟩
    · replace h := ed_neg q147 h
      refine iq_iconst hS 151 J_MSquareRows_masked_d150 (v := 1) (by decide +kernel) rfl ?_
      refine iq_goto hS J_MSquareRows_masked_d151 (t := 155) rfl ?_
      exact iq_iret J_MSquareRows_masked_d155 rfl rfl ⟨_, rfl, rfl, ed_some h⟩
  replace h := ed_neg q1_6 h
  refine iq_tsw hS J_MSquareRows_masked_d1 (t := 156) (sw_d [0, 1, 2, 3, 4, 5, 6] (by decide) (by decide) (by decide +kernel) (sw_nc q1_0 (sw_nc q1_1 (sw_nc q1_2 (sw_nc q1_3 (sw_nc q1_4 (sw_nc q1_5 (sw_nc q1_6 sw_nn)))))))) ?_
  refine iq_iload_n hS 157 J_MSquareRows_masked_d156 l1 rfl ?_
  refine iq_iload_n hS 158 J_MSquareRows_masked_d157 l2 rfl ?_
  refine iq_iadd hS 159 J_MSquareRows_masked_d158 rfl ?_
  refine iq_iconst hS 160 J_MSquareRows_masked_d159 (v := 2) (by decide +kernel) rfl ?_
  refine iq_irem hS 161 J_MSquareRows_masked_d160 (by decide) rfl ?_
  refine iq_iload_n hS 162 J_MSquareRows_masked_d161 l1 rfl ?_
  refine iq_iload_n hS 163 J_MSquareRows_masked_d162 l2 rfl ?_
  refine iq_imul hS 164 J_MSquareRows_masked_d163 rfl ?_
  refine iq_iconst hS 165 J_MSquareRows_masked_d164 (v := 3) (by decide +kernel) rfl ?_
  refine iq_irem hS 166 J_MSquareRows_masked_d165 (by decide) rfl ?_
  refine iq_iadd hS 167 J_MSquareRows_masked_d166 rfl ?_
  refine iq_iconst hS 168 J_MSquareRows_masked_d167 (v := 2) (by decide +kernel) rfl ?_
  refine iq_irem hS 169 J_MSquareRows_masked_d168 (by decide) rfl ?_
  refine iq_if_ne hS 172 J_MSquareRows_masked_d169 (t := 176) rfl (fun q169 => ?_) rfl (fun q169 => ?_)
  · replace h := ed_pos q169 h
    refine iq_iconst hS 177 J_MSquareRows_masked_d176 (v := 0) (by decide +kernel) rfl ?_
    exact iq_iret J_MSquareRows_masked_d177 rfl rfl ⟨_, rfl, rfl, ed_some h⟩
  · replace h := ed_neg q169 h
    refine iq_iconst hS 173 J_MSquareRows_masked_d172 (v := 1) (by decide +kernel) rfl ?_
    refine iq_goto hS J_MSquareRows_masked_d173 (t := 177) rfl ?_
    exact iq_iret J_MSquareRows_masked_d177 rfl rfl ⟨_, rfl, rfl, ed_some h⟩
noncomputable def f_MSquareRows_goThrough_L37 (v11 : Int32) (v12 : Int32) (v13 : Int32) (v14 : Int32) (v15 : Int32) (x16 : Int32) (x17 : Int32) (M18 : im_M) : Option ((Int32 × Int32 × im_M) ⊕ (Int32 × im_M)) := if ((2 : Int32) * (im_i M18 108 8)) ≤ x17 then some (.inr (x16, M18)) else bd1 (if v14 = 0 then some (x17 / 2) else some (((im_i M18 108 8) - 1) - (x17 / 2))) fun (y20 : Int32) => bd1 (f_MSquareRows_moduleAt (v15 - (x17 - x17 / 2 * 2)) y20 M18) fun (x29 : Int32) => gd (inb x29 31329) <| bd2 (if ¬ (im_i M18 113 (Int32.toNatClampNeg x29)) = 0 then some (x16, M18) else bd1 (f_MSquareRows_masked v11 (v15 - (x17 - x17 / 2 * 2)) y20 M18) fun (x31 : Int32) => bd1 (jn1 (fun (M35 : im_M) => if ¬ v12 = 0 then some M35 else bd1 (if ((8 : Int32) * v13) ≤ x16 then some 0 else gd (inb (x16 / 8) 3800) <| some (((im_i M35 120 (Int32.toNatClampNeg (x16 / 8))) >>> (((7 : Int32) - (x16 - x16 / 8 * 8)) &&& 31 : Int32) : Int32) &&& 1)) fun (y47 : Int32) => gd (inb x29 31329) <| some (im_setI M35 112 (Int32.toNatClampNeg x29) (y47 ^^^ ((if x31 = 0 then 0 else 1) : Int32)))) fun k34 => if v12 = 0 then k34 M18 else if ((8 : Int32) * v13) ≤ x16 then k34 M18 else gd (inb (x16 / 8) 3800) <| gd (inb x29 31329) <| gd (inb (x16 / 8) 3800) <| some (im_setI M18 120 (Int32.toNatClampNeg (x16 / 8)) (((im_i M18 120 (Int32.toNatClampNeg (x16 / 8))) &&& (((1 : Int32) <<< (((7 : Int32) - (x16 - x16 / 8 * 8)) &&& 31 : Int32) : Int32) ^^^ (-1))) ||| (((im_i M18 112 (Int32.toNatClampNeg x29)) ^^^ ((if x31 = 0 then 0 else 1) : Int32)) <<< (((7 : Int32) - (x16 - x16 / 8 * 8)) &&& 31 : Int32) : Int32)))) fun (M58 : im_M) => some ((x16 + 1), M58)) fun (y67 : Int32) (M68 : im_M) => some (.inl (y67, (x17 + 1), M68))
noncomputable def f_MSquareRows_goThrough_L14 (v2 : Int32) (v3 : Int32) (v4 : Int32) (x5 : Int32) (x6 : Int32) (x7 : Int32) (M8 : im_M) : Option ((Int32 × Int32 × Int32 × im_M) ⊕ (im_M)) := if x7 ≤ 0 then some (.inr M8) else bd2 (lp (uc3 (f_MSquareRows_goThrough_L37 v2 v3 v4 x6 ((if ¬ x7 = 6 then x7 else 5) : Int32))) (x5, 0, M8)) fun (y77 : Int32) (M78 : im_M) => some (.inl (y77, ((if ¬ x6 = 0 then 0 else 1) : Int32), (((if ¬ x7 = 6 then x7 else 5) : Int32) + (-2)), M78))
noncomputable def f_MSquareRows_goThrough (p0 : Int32) (p1 : Int32) (p2 : Int32) (M : im_M) : Option (im_M) := bd1 (lp (uc4 (f_MSquareRows_goThrough_L14 p0 p1 p2)) (0, 1, ((im_i M 108 8) - 1), M)) fun (M80 : im_M) => some M80
theorem J_MSquareRows_goThrough_d0 : decode J_MSquareRows_goThrough.2.1 0 = .ok (.iconst 0, 1) := by decide +kernel
theorem J_MSquareRows_goThrough_d1 : decode J_MSquareRows_goThrough.2.1 1 = .ok (.istore 4, 2) := by decide +kernel
theorem J_MSquareRows_goThrough_d3 : decode J_MSquareRows_goThrough.2.1 3 = .ok (.iconst 1, 1) := by decide +kernel
theorem J_MSquareRows_goThrough_d4 : decode J_MSquareRows_goThrough.2.1 4 = .ok (.istore 5, 2) := by decide +kernel
theorem J_MSquareRows_goThrough_d6 : decode J_MSquareRows_goThrough.2.1 6 = .ok (.aload_n 0, 1) := by decide +kernel
theorem J_MSquareRows_goThrough_d7 : decode J_MSquareRows_goThrough.2.1 7 = .ok (.getfield 163, 3) := by decide +kernel
theorem J_MSquareRows_goThrough_d10 : decode J_MSquareRows_goThrough.2.1 10 = .ok (.iconst 1, 1) := by decide +kernel
theorem J_MSquareRows_goThrough_d11 : decode J_MSquareRows_goThrough.2.1 11 = .ok (.isub, 1) := by decide +kernel
theorem J_MSquareRows_goThrough_d12 : decode J_MSquareRows_goThrough.2.1 12 = .ok (.istore 6, 2) := by decide +kernel
theorem J_MSquareRows_goThrough_d14 : decode J_MSquareRows_goThrough.2.1 14 = .ok (.iload 6, 2) := by decide +kernel
theorem J_MSquareRows_goThrough_d16 : decode J_MSquareRows_goThrough.2.1 16 = .ok (.ifCond .le 252, 3) := by decide +kernel
theorem J_MSquareRows_goThrough_d19 : decode J_MSquareRows_goThrough.2.1 19 = .ok (.iload 6, 2) := by decide +kernel
theorem J_MSquareRows_goThrough_d21 : decode J_MSquareRows_goThrough.2.1 21 = .ok (.bipush 6, 2) := by decide +kernel
theorem J_MSquareRows_goThrough_d23 : decode J_MSquareRows_goThrough.2.1 23 = .ok (.if_icmp .ne 7, 3) := by decide +kernel
theorem J_MSquareRows_goThrough_d26 : decode J_MSquareRows_goThrough.2.1 26 = .ok (.iconst 5, 1) := by decide +kernel
theorem J_MSquareRows_goThrough_d27 : decode J_MSquareRows_goThrough.2.1 27 = .ok (.goto 5, 3) := by decide +kernel
theorem J_MSquareRows_goThrough_d30 : decode J_MSquareRows_goThrough.2.1 30 = .ok (.iload 6, 2) := by decide +kernel
theorem J_MSquareRows_goThrough_d32 : decode J_MSquareRows_goThrough.2.1 32 = .ok (.istore 6, 2) := by decide +kernel
theorem J_MSquareRows_goThrough_d34 : decode J_MSquareRows_goThrough.2.1 34 = .ok (.iconst 0, 1) := by decide +kernel
theorem J_MSquareRows_goThrough_d35 : decode J_MSquareRows_goThrough.2.1 35 = .ok (.istore 7, 2) := by decide +kernel
theorem J_MSquareRows_goThrough_d37 : decode J_MSquareRows_goThrough.2.1 37 = .ok (.iload 7, 2) := by decide +kernel
theorem J_MSquareRows_goThrough_d39 : decode J_MSquareRows_goThrough.2.1 39 = .ok (.iconst 2, 1) := by decide +kernel
theorem J_MSquareRows_goThrough_d40 : decode J_MSquareRows_goThrough.2.1 40 = .ok (.aload_n 0, 1) := by decide +kernel
theorem J_MSquareRows_goThrough_d41 : decode J_MSquareRows_goThrough.2.1 41 = .ok (.getfield 163, 3) := by decide +kernel
theorem J_MSquareRows_goThrough_d44 : decode J_MSquareRows_goThrough.2.1 44 = .ok (.imul, 1) := by decide +kernel
theorem J_MSquareRows_goThrough_d45 : decode J_MSquareRows_goThrough.2.1 45 = .ok (.if_icmp .ge 205, 3) := by decide +kernel
theorem J_MSquareRows_goThrough_d48 : decode J_MSquareRows_goThrough.2.1 48 = .ok (.iload 5, 2) := by decide +kernel
theorem J_MSquareRows_goThrough_d50 : decode J_MSquareRows_goThrough.2.1 50 = .ok (.ifCond .eq 17, 3) := by decide +kernel
theorem J_MSquareRows_goThrough_d53 : decode J_MSquareRows_goThrough.2.1 53 = .ok (.aload_n 0, 1) := by decide +kernel
theorem J_MSquareRows_goThrough_d54 : decode J_MSquareRows_goThrough.2.1 54 = .ok (.getfield 163, 3) := by decide +kernel
theorem J_MSquareRows_goThrough_d57 : decode J_MSquareRows_goThrough.2.1 57 = .ok (.iconst 1, 1) := by decide +kernel
theorem J_MSquareRows_goThrough_d58 : decode J_MSquareRows_goThrough.2.1 58 = .ok (.isub, 1) := by decide +kernel
theorem J_MSquareRows_goThrough_d59 : decode J_MSquareRows_goThrough.2.1 59 = .ok (.iload 7, 2) := by decide +kernel
theorem J_MSquareRows_goThrough_d61 : decode J_MSquareRows_goThrough.2.1 61 = .ok (.iconst 2, 1) := by decide +kernel
theorem J_MSquareRows_goThrough_d62 : decode J_MSquareRows_goThrough.2.1 62 = .ok (.idiv, 1) := by decide +kernel
theorem J_MSquareRows_goThrough_d63 : decode J_MSquareRows_goThrough.2.1 63 = .ok (.isub, 1) := by decide +kernel
theorem J_MSquareRows_goThrough_d64 : decode J_MSquareRows_goThrough.2.1 64 = .ok (.goto 7, 3) := by decide +kernel
theorem J_MSquareRows_goThrough_d67 : decode J_MSquareRows_goThrough.2.1 67 = .ok (.iload 7, 2) := by decide +kernel
theorem J_MSquareRows_goThrough_d69 : decode J_MSquareRows_goThrough.2.1 69 = .ok (.iconst 2, 1) := by decide +kernel
theorem J_MSquareRows_goThrough_d70 : decode J_MSquareRows_goThrough.2.1 70 = .ok (.idiv, 1) := by decide +kernel
theorem J_MSquareRows_goThrough_d71 : decode J_MSquareRows_goThrough.2.1 71 = .ok (.istore 8, 2) := by decide +kernel
theorem J_MSquareRows_goThrough_d73 : decode J_MSquareRows_goThrough.2.1 73 = .ok (.iload 6, 2) := by decide +kernel
theorem J_MSquareRows_goThrough_d75 : decode J_MSquareRows_goThrough.2.1 75 = .ok (.iload 7, 2) := by decide +kernel
theorem J_MSquareRows_goThrough_d77 : decode J_MSquareRows_goThrough.2.1 77 = .ok (.iconst 2, 1) := by decide +kernel
theorem J_MSquareRows_goThrough_d78 : decode J_MSquareRows_goThrough.2.1 78 = .ok (.irem, 1) := by decide +kernel
theorem J_MSquareRows_goThrough_d79 : decode J_MSquareRows_goThrough.2.1 79 = .ok (.isub, 1) := by decide +kernel
theorem J_MSquareRows_goThrough_d80 : decode J_MSquareRows_goThrough.2.1 80 = .ok (.istore 9, 2) := by decide +kernel
theorem J_MSquareRows_goThrough_d82 : decode J_MSquareRows_goThrough.2.1 82 = .ok (.aload_n 0, 1) := by decide +kernel
theorem J_MSquareRows_goThrough_d83 : decode J_MSquareRows_goThrough.2.1 83 = .ok (.iload 9, 2) := by decide +kernel
theorem J_MSquareRows_goThrough_d85 : decode J_MSquareRows_goThrough.2.1 85 = .ok (.iload 8, 2) := by decide +kernel
theorem J_MSquareRows_goThrough_d87 : decode J_MSquareRows_goThrough.2.1 87 = .ok (.invokevirtual 166, 3) := by decide +kernel
theorem J_MSquareRows_goThrough_d90 : decode J_MSquareRows_goThrough.2.1 90 = .ok (.istore 10, 2) := by decide +kernel
theorem J_MSquareRows_goThrough_d92 : decode J_MSquareRows_goThrough.2.1 92 = .ok (.aload_n 0, 1) := by decide +kernel
theorem J_MSquareRows_goThrough_d93 : decode J_MSquareRows_goThrough.2.1 93 = .ok (.getfield 22, 3) := by decide +kernel
theorem J_MSquareRows_goThrough_d96 : decode J_MSquareRows_goThrough.2.1 96 = .ok (.iload 10, 2) := by decide +kernel
theorem J_MSquareRows_goThrough_d98 : decode J_MSquareRows_goThrough.2.1 98 = .ok (.iaload, 1) := by decide +kernel
theorem J_MSquareRows_goThrough_d99 : decode J_MSquareRows_goThrough.2.1 99 = .ok (.ifCond .ne 145, 3) := by decide +kernel
theorem J_MSquareRows_goThrough_d102 : decode J_MSquareRows_goThrough.2.1 102 = .ok (.iload_n 1, 1) := by decide +kernel
theorem J_MSquareRows_goThrough_d103 : decode J_MSquareRows_goThrough.2.1 103 = .ok (.iload 9, 2) := by decide +kernel
theorem J_MSquareRows_goThrough_d105 : decode J_MSquareRows_goThrough.2.1 105 = .ok (.iload 8, 2) := by decide +kernel
theorem J_MSquareRows_goThrough_d107 : decode J_MSquareRows_goThrough.2.1 107 = .ok (.invokestatic 202, 3) := by decide +kernel
theorem J_MSquareRows_goThrough_d110 : decode J_MSquareRows_goThrough.2.1 110 = .ok (.ifCond .eq 7, 3) := by decide +kernel
theorem J_MSquareRows_goThrough_d113 : decode J_MSquareRows_goThrough.2.1 113 = .ok (.iconst 1, 1) := by decide +kernel
theorem J_MSquareRows_goThrough_d114 : decode J_MSquareRows_goThrough.2.1 114 = .ok (.goto 4, 3) := by decide +kernel
theorem J_MSquareRows_goThrough_d117 : decode J_MSquareRows_goThrough.2.1 117 = .ok (.iconst 0, 1) := by decide +kernel
theorem J_MSquareRows_goThrough_d118 : decode J_MSquareRows_goThrough.2.1 118 = .ok (.istore 11, 2) := by decide +kernel
theorem J_MSquareRows_goThrough_d120 : decode J_MSquareRows_goThrough.2.1 120 = .ok (.iload_n 2, 1) := by decide +kernel
theorem J_MSquareRows_goThrough_d121 : decode J_MSquareRows_goThrough.2.1 121 = .ok (.ifCond .eq 68, 3) := by decide +kernel
theorem J_MSquareRows_goThrough_d124 : decode J_MSquareRows_goThrough.2.1 124 = .ok (.iload 4, 2) := by decide +kernel
theorem J_MSquareRows_goThrough_d126 : decode J_MSquareRows_goThrough.2.1 126 = .ok (.bipush 8, 2) := by decide +kernel
theorem J_MSquareRows_goThrough_d128 : decode J_MSquareRows_goThrough.2.1 128 = .ok (.iload_n 3, 1) := by decide +kernel
theorem J_MSquareRows_goThrough_d129 : decode J_MSquareRows_goThrough.2.1 129 = .ok (.imul, 1) := by decide +kernel
theorem J_MSquareRows_goThrough_d130 : decode J_MSquareRows_goThrough.2.1 130 = .ok (.if_icmp .ge 59, 3) := by decide +kernel
theorem J_MSquareRows_goThrough_d133 : decode J_MSquareRows_goThrough.2.1 133 = .ok (.aload_n 0, 1) := by decide +kernel
theorem J_MSquareRows_goThrough_d134 : decode J_MSquareRows_goThrough.2.1 134 = .ok (.getfield 43, 3) := by decide +kernel
theorem J_MSquareRows_goThrough_d137 : decode J_MSquareRows_goThrough.2.1 137 = .ok (.iload 4, 2) := by decide +kernel
theorem J_MSquareRows_goThrough_d139 : decode J_MSquareRows_goThrough.2.1 139 = .ok (.bipush 8, 2) := by decide +kernel
theorem J_MSquareRows_goThrough_d141 : decode J_MSquareRows_goThrough.2.1 141 = .ok (.idiv, 1) := by decide +kernel
theorem J_MSquareRows_goThrough_d142 : decode J_MSquareRows_goThrough.2.1 142 = .ok (.aload_n 0, 1) := by decide +kernel
theorem J_MSquareRows_goThrough_d143 : decode J_MSquareRows_goThrough.2.1 143 = .ok (.getfield 43, 3) := by decide +kernel
theorem J_MSquareRows_goThrough_d146 : decode J_MSquareRows_goThrough.2.1 146 = .ok (.iload 4, 2) := by decide +kernel
theorem J_MSquareRows_goThrough_d148 : decode J_MSquareRows_goThrough.2.1 148 = .ok (.bipush 8, 2) := by decide +kernel
theorem J_MSquareRows_goThrough_d150 : decode J_MSquareRows_goThrough.2.1 150 = .ok (.idiv, 1) := by decide +kernel
theorem J_MSquareRows_goThrough_d151 : decode J_MSquareRows_goThrough.2.1 151 = .ok (.iaload, 1) := by decide +kernel
theorem J_MSquareRows_goThrough_d152 : decode J_MSquareRows_goThrough.2.1 152 = .ok (.iconst 1, 1) := by decide +kernel
theorem J_MSquareRows_goThrough_d153 : decode J_MSquareRows_goThrough.2.1 153 = .ok (.bipush 7, 2) := by decide +kernel
theorem J_MSquareRows_goThrough_d155 : decode J_MSquareRows_goThrough.2.1 155 = .ok (.iload 4, 2) := by decide +kernel
theorem J_MSquareRows_goThrough_d157 : decode J_MSquareRows_goThrough.2.1 157 = .ok (.bipush 8, 2) := by decide +kernel
theorem J_MSquareRows_goThrough_d159 : decode J_MSquareRows_goThrough.2.1 159 = .ok (.irem, 1) := by decide +kernel
theorem J_MSquareRows_goThrough_d160 : decode J_MSquareRows_goThrough.2.1 160 = .ok (.isub, 1) := by decide +kernel
theorem J_MSquareRows_goThrough_d161 : decode J_MSquareRows_goThrough.2.1 161 = .ok (.ishl, 1) := by decide +kernel
theorem J_MSquareRows_goThrough_d162 : decode J_MSquareRows_goThrough.2.1 162 = .ok (.iconst (-1), 1) := by decide +kernel
theorem J_MSquareRows_goThrough_d163 : decode J_MSquareRows_goThrough.2.1 163 = .ok (.ixor, 1) := by decide +kernel
theorem J_MSquareRows_goThrough_d164 : decode J_MSquareRows_goThrough.2.1 164 = .ok (.iand, 1) := by decide +kernel
theorem J_MSquareRows_goThrough_d165 : decode J_MSquareRows_goThrough.2.1 165 = .ok (.aload_n 0, 1) := by decide +kernel
theorem J_MSquareRows_goThrough_d166 : decode J_MSquareRows_goThrough.2.1 166 = .ok (.getfield 19, 3) := by decide +kernel
theorem J_MSquareRows_goThrough_d169 : decode J_MSquareRows_goThrough.2.1 169 = .ok (.iload 10, 2) := by decide +kernel
theorem J_MSquareRows_goThrough_d171 : decode J_MSquareRows_goThrough.2.1 171 = .ok (.iaload, 1) := by decide +kernel
theorem J_MSquareRows_goThrough_d172 : decode J_MSquareRows_goThrough.2.1 172 = .ok (.iload 11, 2) := by decide +kernel
theorem J_MSquareRows_goThrough_d174 : decode J_MSquareRows_goThrough.2.1 174 = .ok (.ixor, 1) := by decide +kernel
theorem J_MSquareRows_goThrough_d175 : decode J_MSquareRows_goThrough.2.1 175 = .ok (.bipush 7, 2) := by decide +kernel
theorem J_MSquareRows_goThrough_d177 : decode J_MSquareRows_goThrough.2.1 177 = .ok (.iload 4, 2) := by decide +kernel
theorem J_MSquareRows_goThrough_d179 : decode J_MSquareRows_goThrough.2.1 179 = .ok (.bipush 8, 2) := by decide +kernel
theorem J_MSquareRows_goThrough_d181 : decode J_MSquareRows_goThrough.2.1 181 = .ok (.irem, 1) := by decide +kernel
theorem J_MSquareRows_goThrough_d182 : decode J_MSquareRows_goThrough.2.1 182 = .ok (.isub, 1) := by decide +kernel
theorem J_MSquareRows_goThrough_d183 : decode J_MSquareRows_goThrough.2.1 183 = .ok (.ishl, 1) := by decide +kernel
theorem J_MSquareRows_goThrough_d184 : decode J_MSquareRows_goThrough.2.1 184 = .ok (.ior, 1) := by decide +kernel
theorem J_MSquareRows_goThrough_d185 : decode J_MSquareRows_goThrough.2.1 185 = .ok (.iastore, 1) := by decide +kernel
theorem J_MSquareRows_goThrough_d186 : decode J_MSquareRows_goThrough.2.1 186 = .ok (.goto 55, 3) := by decide +kernel
theorem J_MSquareRows_goThrough_d189 : decode J_MSquareRows_goThrough.2.1 189 = .ok (.iload_n 2, 1) := by decide +kernel
theorem J_MSquareRows_goThrough_d190 : decode J_MSquareRows_goThrough.2.1 190 = .ok (.ifCond .ne 51, 3) := by decide +kernel
theorem J_MSquareRows_goThrough_d193 : decode J_MSquareRows_goThrough.2.1 193 = .ok (.iload 4, 2) := by decide +kernel
theorem J_MSquareRows_goThrough_d195 : decode J_MSquareRows_goThrough.2.1 195 = .ok (.bipush 8, 2) := by decide +kernel
theorem J_MSquareRows_goThrough_d197 : decode J_MSquareRows_goThrough.2.1 197 = .ok (.iload_n 3, 1) := by decide +kernel
theorem J_MSquareRows_goThrough_d198 : decode J_MSquareRows_goThrough.2.1 198 = .ok (.imul, 1) := by decide +kernel
theorem J_MSquareRows_goThrough_d199 : decode J_MSquareRows_goThrough.2.1 199 = .ok (.if_icmp .ge 27, 3) := by decide +kernel
theorem J_MSquareRows_goThrough_d202 : decode J_MSquareRows_goThrough.2.1 202 = .ok (.aload_n 0, 1) := by decide +kernel
theorem J_MSquareRows_goThrough_d203 : decode J_MSquareRows_goThrough.2.1 203 = .ok (.getfield 43, 3) := by decide +kernel
theorem J_MSquareRows_goThrough_d206 : decode J_MSquareRows_goThrough.2.1 206 = .ok (.iload 4, 2) := by decide +kernel
theorem J_MSquareRows_goThrough_d208 : decode J_MSquareRows_goThrough.2.1 208 = .ok (.bipush 8, 2) := by decide +kernel
theorem J_MSquareRows_goThrough_d210 : decode J_MSquareRows_goThrough.2.1 210 = .ok (.idiv, 1) := by decide +kernel
theorem J_MSquareRows_goThrough_d211 : decode J_MSquareRows_goThrough.2.1 211 = .ok (.iaload, 1) := by decide +kernel
theorem J_MSquareRows_goThrough_d212 : decode J_MSquareRows_goThrough.2.1 212 = .ok (.bipush 7, 2) := by decide +kernel
theorem J_MSquareRows_goThrough_d214 : decode J_MSquareRows_goThrough.2.1 214 = .ok (.iload 4, 2) := by decide +kernel
theorem J_MSquareRows_goThrough_d216 : decode J_MSquareRows_goThrough.2.1 216 = .ok (.bipush 8, 2) := by decide +kernel
theorem J_MSquareRows_goThrough_d218 : decode J_MSquareRows_goThrough.2.1 218 = .ok (.irem, 1) := by decide +kernel
theorem J_MSquareRows_goThrough_d219 : decode J_MSquareRows_goThrough.2.1 219 = .ok (.isub, 1) := by decide +kernel
theorem J_MSquareRows_goThrough_d220 : decode J_MSquareRows_goThrough.2.1 220 = .ok (.ishr, 1) := by decide +kernel
theorem J_MSquareRows_goThrough_d221 : decode J_MSquareRows_goThrough.2.1 221 = .ok (.iconst 1, 1) := by decide +kernel
theorem J_MSquareRows_goThrough_d222 : decode J_MSquareRows_goThrough.2.1 222 = .ok (.iand, 1) := by decide +kernel
theorem J_MSquareRows_goThrough_d223 : decode J_MSquareRows_goThrough.2.1 223 = .ok (.goto 4, 3) := by decide +kernel
theorem J_MSquareRows_goThrough_d226 : decode J_MSquareRows_goThrough.2.1 226 = .ok (.iconst 0, 1) := by decide +kernel
theorem J_MSquareRows_goThrough_d227 : decode J_MSquareRows_goThrough.2.1 227 = .ok (.istore 12, 2) := by decide +kernel
theorem J_MSquareRows_goThrough_d229 : decode J_MSquareRows_goThrough.2.1 229 = .ok (.aload_n 0, 1) := by decide +kernel
theorem J_MSquareRows_goThrough_d230 : decode J_MSquareRows_goThrough.2.1 230 = .ok (.getfield 19, 3) := by decide +kernel
theorem J_MSquareRows_goThrough_d233 : decode J_MSquareRows_goThrough.2.1 233 = .ok (.iload 10, 2) := by decide +kernel
theorem J_MSquareRows_goThrough_d235 : decode J_MSquareRows_goThrough.2.1 235 = .ok (.iload 12, 2) := by decide +kernel
theorem J_MSquareRows_goThrough_d237 : decode J_MSquareRows_goThrough.2.1 237 = .ok (.iload 11, 2) := by decide +kernel
theorem J_MSquareRows_goThrough_d239 : decode J_MSquareRows_goThrough.2.1 239 = .ok (.ixor, 1) := by decide +kernel
theorem J_MSquareRows_goThrough_d240 : decode J_MSquareRows_goThrough.2.1 240 = .ok (.iastore, 1) := by decide +kernel
theorem J_MSquareRows_goThrough_d241 : decode J_MSquareRows_goThrough.2.1 241 = .ok (.iinc 4 1, 3) := by decide +kernel
theorem J_MSquareRows_goThrough_d244 : decode J_MSquareRows_goThrough.2.1 244 = .ok (.iinc 7 1, 3) := by decide +kernel
theorem J_MSquareRows_goThrough_d247 : decode J_MSquareRows_goThrough.2.1 247 = .ok (.goto (-210), 3) := by decide +kernel
theorem J_MSquareRows_goThrough_d250 : decode J_MSquareRows_goThrough.2.1 250 = .ok (.iload 5, 2) := by decide +kernel
theorem J_MSquareRows_goThrough_d252 : decode J_MSquareRows_goThrough.2.1 252 = .ok (.ifCond .ne 7, 3) := by decide +kernel
theorem J_MSquareRows_goThrough_d255 : decode J_MSquareRows_goThrough.2.1 255 = .ok (.iconst 1, 1) := by decide +kernel
theorem J_MSquareRows_goThrough_d256 : decode J_MSquareRows_goThrough.2.1 256 = .ok (.goto 4, 3) := by decide +kernel
theorem J_MSquareRows_goThrough_d259 : decode J_MSquareRows_goThrough.2.1 259 = .ok (.iconst 0, 1) := by decide +kernel
theorem J_MSquareRows_goThrough_d260 : decode J_MSquareRows_goThrough.2.1 260 = .ok (.istore 5, 2) := by decide +kernel
theorem J_MSquareRows_goThrough_d262 : decode J_MSquareRows_goThrough.2.1 262 = .ok (.iinc 6 (-2), 3) := by decide +kernel
theorem J_MSquareRows_goThrough_d265 : decode J_MSquareRows_goThrough.2.1 265 = .ok (.goto (-251), 3) := by decide +kernel
theorem J_MSquareRows_goThrough_d268 : decode J_MSquareRows_goThrough.2.1 268 = .ok (.return_, 1) := by decide +kernel
theorem f_MSquareRows_goThrough_ok {L : Nat} {xs : Nat → Int32} {dep : Nat} {w : Bool} {p0 : Int32} {p1 : Int32} {p2 : Int32} {M : im_M} {Q : im_M → Prop} (hM : lw_S w M) (h : ed (f_MSquareRows_goThrough p0 p1 p2 M) Q) : ia (tb_G L xs) (dep + 1) J_MSquareRows_goThrough (rwV w Q) (0, lv_args 0 [.ref 108, .int p0, .int p1, .int p2], [], M) := by
  have hS : im_St (tb_G L xs) (dep + 1) J_MSquareRows_goThrough (ia (tb_G L xs) (dep + 1) J_MSquareRows_goThrough (rwV w Q)) := ia_St
  unfold f_MSquareRows_goThrough at h
  have l0 : im_lk (lv_args 0 [.ref 108, .int p0, .int p1, .int p2]) 0 = some (.ref 108) := rfl
  have l1 : im_lk (lv_args 0 [.ref 108, .int p0, .int p1, .int p2]) 1 = some (.int p0) := rfl
  have l2 : im_lk (lv_args 0 [.ref 108, .int p0, .int p1, .int p2]) 2 = some (.int p1) := rfl
  have l3 : im_lk (lv_args 0 [.ref 108, .int p0, .int p1, .int p2]) 3 = some (.int p2) := rfl
  refine iq_iconst hS 1 J_MSquareRows_goThrough_d0 (v := 0) (by decide +kernel) rfl ?_
  refine iq_istore hS 3 J_MSquareRows_goThrough_d1 (by decide) rfl ?_
  refine iq_iconst hS 4 J_MSquareRows_goThrough_d3 (v := 1) (by decide +kernel) rfl ?_
  refine iq_istore hS 6 J_MSquareRows_goThrough_d4 (by decide) rfl ?_
  refine iq_aload_n hS 7 J_MSquareRows_goThrough_d6 (lk_1r (lk_1r l0 (by decide)) (by decide)) rfl ?_
  refine iq_getI hS 10 J_MSquareRows_goThrough_d7 lf_16_163 (Or.inl rfl) (ka_108 hM) rfl ?_
  refine iq_iconst hS 11 J_MSquareRows_goThrough_d10 (v := 1) (by decide +kernel) rfl ?_
  refine iq_isub hS 12 J_MSquareRows_goThrough_d11 rfl ?_
  refine iq_istore hS 14 J_MSquareRows_goThrough_d12 (by decide) rfl ?_
  obtain ⟨Q1, hQ1, h⟩ := bd1_ed h
  have K1 : ∀ (M2 : im_M) (L' : List (Nat × Value)), lw_S w M2 → Q1 M2 → ia (tb_G L xs) (dep + 1) J_MSquareRows_goThrough (rwV w Q) (268, L', [], M2) := by
    intro M2 L' hM2  h
    replace h := hQ1 _ h
    exact iq_ret J_MSquareRows_goThrough_d268 rfl ⟨rfl, hM2, ed_some h⟩
  obtain ⟨r1, hr1, hq1⟩ := h
  obtain ⟨n1, hn1⟩ := lp_n hr1
  have I1 : ∀ (n : Nat) (x3 : Int32) (x4 : Int32) (x5 : Int32) (M6 : im_M) (L' : List (Nat × Value)), lw_S w M6 → im_lk L' 0 = some (.ref 108) → im_lk L' 1 = some (.int p0) → im_lk L' 2 = some (.int p1) → im_lk L' 3 = some (.int p2) → im_lk L' 4 = some (.int x3) → im_lk L' 5 = some (.int x4) → im_lk L' 6 = some (.int x5) → lpn (uc4 (f_MSquareRows_goThrough_L14 p0 p1 p2)) n (x3, x4, x5, M6) = some r1 → ia (tb_G L xs) (dep + 1) J_MSquareRows_goThrough (rwV w Q) (14, L', [], M6) := by
    intro n
    induction n with
    | zero => intro x3 x4 x5 M6 L' hM6 l7 l8 l9 l10 l11 l12 l13 hn; exact (lpn_0 hn).elim
    | succ n ih =>
      intro x3 x4 x5 M6 L' hM6 l7 l8 l9 l10 l11 l12 l13 hn
      have h := lpn_ed4 hn
      unfold f_MSquareRows_goThrough_L14 at h
      refine iq_iload hS 16 J_MSquareRows_goThrough_d14 l13 rfl ?_
      refine iq_if_le hS 19 J_MSquareRows_goThrough_d16 (t := 268) rfl (fun q16 => ?_) rfl (fun q16 => ?_)
      · replace h := ed_pos q16 h
        exact K1 _ _ hM6  (lq_r h hq1)
      · replace h := ed_neg q16 h
        refine iq_iload hS 21 J_MSquareRows_goThrough_d19 l13 rfl ?_
        refine iq_bipush hS 23 J_MSquareRows_goThrough_d21 (v := 6) (by decide +kernel) rfl ?_
        have J14 : ∀ (z15 : Int32) (L' : List (Nat × Value)), z15 = ((if ¬ x5 = 6 then x5 else 5) : Int32) → im_lk L' 0 = some (.ref 108) → im_lk L' 1 = some (.int p0) → im_lk L' 2 = some (.int p1) → im_lk L' 3 = some (.int p2) → im_lk L' 4 = some (.int x3) → im_lk L' 5 = some (.int x4) → ia (tb_G L xs) (dep + 1) J_MSquareRows_goThrough (rwV w Q) (32, L', [.int z15], M6) := by
          intro z15 L' e16 l17 l18 l19 l20 l21 l22
          subst e16
          refine iq_istore hS 34 J_MSquareRows_goThrough_d32 (by decide) rfl ?_
          refine iq_iconst hS 35 J_MSquareRows_goThrough_d34 (v := 0) (by decide +kernel) rfl ?_
          refine iq_istore hS 37 J_MSquareRows_goThrough_d35 (by decide) rfl ?_
          obtain ⟨Q23, hQ23, h⟩ := bd2_ed h
          have K23 : ∀ (y24 : Int32) (M25 : im_M) (L' : List (Nat × Value)), lw_S w M25 → im_lk L' 0 = some (.ref 108) → im_lk L' 1 = some (.int p0) → im_lk L' 2 = some (.int p1) → im_lk L' 3 = some (.int p2) → im_lk L' 4 = some (.int y24) → im_lk L' 5 = some (.int x4) → im_lk L' 6 = some (.int ((if ¬ x5 = 6 then x5 else 5) : Int32)) → Q23 (y24, M25) → ia (tb_G L xs) (dep + 1) J_MSquareRows_goThrough (rwV w Q) (250, L', [], M25) := by
            intro y24 M25 L' hM25 l26 l27 l28 l29 l30 l31 l32 h
            replace h := hQ23 _ _ h
            refine iq_iload hS 252 J_MSquareRows_goThrough_d250 l31 rfl ?_
            have J33 : ∀ (z34 : Int32) (L' : List (Nat × Value)), z34 = ((if ¬ x4 = 0 then 0 else 1) : Int32) → im_lk L' 0 = some (.ref 108) → im_lk L' 1 = some (.int p0) → im_lk L' 2 = some (.int p1) → im_lk L' 3 = some (.int p2) → im_lk L' 4 = some (.int y24) → im_lk L' 6 = some (.int ((if ¬ x5 = 6 then x5 else 5) : Int32)) → ia (tb_G L xs) (dep + 1) J_MSquareRows_goThrough (rwV w Q) (260, L', [.int z34], M25) := by
              intro z34 L' e35 l36 l37 l38 l39 l40 l41
              subst e35
              refine iq_istore hS 262 J_MSquareRows_goThrough_d260 (by decide) rfl ?_
              refine iq_iincv hS 265 J_MSquareRows_goThrough_d262 (c := (-2)) (by decide +kernel) (lk_1i l41 (by decide)) (by decide) rfl ?_
              refine iq_goto hS J_MSquareRows_goThrough_d265 (t := 14) rfl ?_
              exact ih _ _ _ _ _ hM25 (lk_1r (lk_1r l36 (by decide)) (by decide)) (lk_1i (lk_1i l37 (by decide)) (by decide)) (lk_1i (lk_1i l38 (by decide)) (by decide)) (lk_1i (lk_1i l39 (by decide)) (by decide)) (lk_1i (lk_1i l40 (by decide)) (by decide)) (lk_1i lk_1s (by decide)) lk_1s (lq_l h)
            refine iq_if_ne hS 255 J_MSquareRows_goThrough_d252 (t := 259) rfl (fun q252 => ?_) rfl (fun q252 => ?_)
            · refine iq_iconst hS 260 J_MSquareRows_goThrough_d259 (v := 0) (by decide +kernel) rfl ?_
              exact J33 _ _ (by simp only [if_pos q252]) l26 l27 l28 l29 l30 l32
            · refine iq_iconst hS 256 J_MSquareRows_goThrough_d255 (v := 1) (by decide +kernel) rfl ?_
              refine iq_goto hS J_MSquareRows_goThrough_d256 (t := 260) rfl ?_
              exact J33 _ _ (by simp only [if_neg q252]) l26 l27 l28 l29 l30 l32
          obtain ⟨r23, hr23, hq23⟩ := h
          obtain ⟨n23, hn23⟩ := lp_n hr23
          have I23 : ∀ (n : Nat) (x42 : Int32) (x43 : Int32) (M44 : im_M) (L' : List (Nat × Value)), lw_S w M44 → im_lk L' 0 = some (.ref 108) → im_lk L' 1 = some (.int p0) → im_lk L' 2 = some (.int p1) → im_lk L' 3 = some (.int p2) → im_lk L' 4 = some (.int x42) → im_lk L' 5 = some (.int x4) → im_lk L' 6 = some (.int ((if ¬ x5 = 6 then x5 else 5) : Int32)) → im_lk L' 7 = some (.int x43) → lpn (uc3 (f_MSquareRows_goThrough_L37 p0 p1 p2 x4 ((if ¬ x5 = 6 then x5 else 5) : Int32))) n (x42, x43, M44) = some r23 → ia (tb_G L xs) (dep + 1) J_MSquareRows_goThrough (rwV w Q) (37, L', [], M44) := by
            intro n
            induction n with
            | zero => intro x42 x43 M44 L' hM44 l45 l46 l47 l48 l49 l50 l51 l52 hn; exact (lpn_0 hn).elim
            | succ n ih =>
              intro x42 x43 M44 L' hM44 l45 l46 l47 l48 l49 l50 l51 l52 hn
              have h := lpn_ed3 hn
              unfold f_MSquareRows_goThrough_L37 at h
              refine iq_iload hS 39 J_MSquareRows_goThrough_d37 l52 rfl ?_
              refine iq_iconst hS 40 J_MSquareRows_goThrough_d39 (v := 2) (by decide +kernel) rfl ?_
              refine iq_aload_n hS 41 J_MSquareRows_goThrough_d40 l45 rfl ?_
              refine iq_getI hS 44 J_MSquareRows_goThrough_d41 lf_16_163 (Or.inl rfl) (ka_108 hM44) rfl ?_
              refine iq_imul hS 45 J_MSquareRows_goThrough_d44 rfl ?_
              refine iq_icmp_ge hS 48 J_MSquareRows_goThrough_d45 (t := 250) rfl (fun q45 => ?_) rfl (fun q45 => ?_)
              · replace h := ed_pos q45 h
                exact K23 _ _ _ hM44 l45 l46 l47 l48 l49 l50 l51 (lq_r h hq23)
              · replace h := ed_neg q45 h
                refine iq_iload hS 50 J_MSquareRows_goThrough_d48 l50 rfl ?_
                obtain ⟨Q53, hQ53, h⟩ := bd1_ed h
                have J53 : ∀ (y54 : Int32) (L' : List (Nat × Value)), im_lk L' 0 = some (.ref 108) → im_lk L' 1 = some (.int p0) → im_lk L' 2 = some (.int p1) → im_lk L' 3 = some (.int p2) → im_lk L' 4 = some (.int x42) → im_lk L' 5 = some (.int x4) → im_lk L' 6 = some (.int ((if ¬ x5 = 6 then x5 else 5) : Int32)) → im_lk L' 7 = some (.int x43) → Q53 y54 → ia (tb_G L xs) (dep + 1) J_MSquareRows_goThrough (rwV w Q) (71, L', [.int y54], M44) := by
                  intro y54 L' l55 l56 l57 l58 l59 l60 l61 l62 h
                  replace h := hQ53 _ h
                  refine iq_istore hS 73 J_MSquareRows_goThrough_d71 (by decide) rfl ?_
                  refine iq_iload hS 75 J_MSquareRows_goThrough_d73 (lk_1i l61 (by decide)) rfl ?_
                  refine iq_iload hS 77 J_MSquareRows_goThrough_d75 (lk_1i l62 (by decide)) rfl ?_
                  refine iq_iconst hS 78 J_MSquareRows_goThrough_d77 (v := 2) (by decide +kernel) rfl ?_
                  refine iq_irem hS 79 J_MSquareRows_goThrough_d78 (by decide) rfl ?_
                  refine iq_isub hS 80 J_MSquareRows_goThrough_d79 rfl ?_
                  refine iq_istore hS 82 J_MSquareRows_goThrough_d80 (by decide) rfl ?_
                  refine iq_aload_n hS 83 J_MSquareRows_goThrough_d82 (lk_1r (lk_1r l55 (by decide)) (by decide)) rfl ?_
                  refine iq_iload hS 85 J_MSquareRows_goThrough_d83 lk_1s rfl ?_
                  refine iq_iload hS 87 J_MSquareRows_goThrough_d85 (lk_1i lk_1s (by decide)) rfl ?_
                  obtain ⟨Q63, hQ63, h⟩ := bd1_ed h
                  refine iq_cpI hS 90 J_MSquareRows_goThrough_d87 rfl (pr_inst (vs := [_, _]) lc_16_166 lT_418 rfl rfl (by decide) (by decide) rfl (Nat.le_of_ble_eq_true rfl) (Nat.le_of_ble_eq_true rfl) (fun _ => Or.inl (pr_b (ka_108 hM44) (by decide) rfl))) (f_MSquareRows_moduleAt_ok (dep := dep + 0) hM44 h) rfl ?_
                  intro x63 h
                  replace h := hQ63 _ h
                  refine iq_istore hS 92 J_MSquareRows_goThrough_d90 (by decide) rfl ?_
                  refine iq_aload_n hS 93 J_MSquareRows_goThrough_d92 (lk_1r (lk_1r (lk_1r l55 (by decide)) (by decide)) (by decide)) rfl ?_
                  refine iq_getR hS 96 J_MSquareRows_goThrough_d93 lf_16_22 (Or.inr ⟨_, rfl⟩) (ka_108 hM44) (ra_108_6 hM44) rfl ?_
                  refine iq_iload hS 98 J_MSquareRows_goThrough_d96 lk_1s rfl ?_
                  obtain ⟨g98, h⟩ := ed_gd h
                  refine iq_iaload hS 99 J_MSquareRows_goThrough_d98 ⟨(ka_113 hM44).1, (ka_113 hM44).2, g98.1, ix_lt (kl_113 hM44) g98.2⟩ rfl ?_
                  obtain ⟨Q64, hQ64, h⟩ := bd2_ed h
                  have J64 : ∀ (y112 : Int32) (M113 : im_M) (L' : List (Nat × Value)), lw_S w M113 → im_lk L' 0 = some (.ref 108) → im_lk L' 1 = some (.int p0) → im_lk L' 2 = some (.int p1) → im_lk L' 3 = some (.int p2) → im_lk L' 4 = some (.int y112) → im_lk L' 5 = some (.int x4) → im_lk L' 6 = some (.int ((if ¬ x5 = 6 then x5 else 5) : Int32)) → im_lk L' 7 = some (.int x43) → Q64 (y112, M113) → ia (tb_G L xs) (dep + 1) J_MSquareRows_goThrough (rwV w Q) (244, L', [], M113) := by
                    intro y112 M113 L' hM113 l114 l115 l116 l117 l118 l119 l120 l121 h
                    replace h := hQ64 _ _ h
                    refine iq_iincv hS 247 J_MSquareRows_goThrough_d244 (c := 1) (by decide +kernel) l121 (by decide) rfl ?_
                    refine iq_goto hS J_MSquareRows_goThrough_d247 (t := 37) rfl ?_
                    exact ih _ _ _ _ hM113 (lk_1r l114 (by decide)) (lk_1i l115 (by decide)) (lk_1i l116 (by decide)) (lk_1i l117 (by decide)) (lk_1i l118 (by decide)) (lk_1i l119 (by decide)) (lk_1i l120 (by decide)) lk_1s (lq_l h)
                  refine iq_if_ne hS 102 J_MSquareRows_goThrough_d99 (t := 244) rfl (fun q99 => ?_) rfl (fun q99 => ?_)
                  · replace h := ed_pos q99 h
                    exact J64 _ _ _ hM44 (lk_1r (lk_1r (lk_1r l55 (by decide)) (by decide)) (by decide)) (lk_1i (lk_1i (lk_1i l56 (by decide)) (by decide)) (by decide)) (lk_1i (lk_1i (lk_1i l57 (by decide)) (by decide)) (by decide)) (lk_1i (lk_1i (lk_1i l58 (by decide)) (by decide)) (by decide)) (lk_1i (lk_1i (lk_1i l59 (by decide)) (by decide)) (by decide)) (lk_1i (lk_1i (lk_1i l60 (by decide)) (by decide)) (by decide)) (lk_1i (lk_1i (lk_1i l61 (by decide)) (by decide)) (by decide)) (lk_1i (lk_1i (lk_1i l62 (by decide)) (by decide)) (by decide)) (ed_some h)
                  · replace h := ed_neg q99 h
                    refine iq_iload_n hS 103 J_MSquareRows_goThrough_d102 (lk_1i (lk_1i (lk_1i l56 (by decide)) (by decide)) (by decide)) rfl ?_
                    refine iq_iload hS 105 J_MSquareRows_goThrough_d103 (lk_1i lk_1s (by decide)) rfl ?_
                    refine iq_iload hS 107 J_MSquareRows_goThrough_d105 (lk_1i (lk_1i lk_1s (by decide)) (by decide)) rfl ?_
                    obtain ⟨Q65, hQ65, h⟩ := bd1_ed h
                    refine iq_cpI hS 110 J_MSquareRows_goThrough_d107 rfl (pr_stat (vs := [_, _, _]) lc_16_202 lT_429 rfl rfl (by decide) rfl (Nat.le_of_ble_eq_true rfl) (Nat.le_of_ble_eq_true rfl)) (f_MSquareRows_masked_ok (dep := dep + 0) hM44 h) rfl ?_
                    intro x65 h
                    replace h := hQ65 _ h
                    have J66 : ∀ (z67 : Int32) (L' : List (Nat × Value)), z67 = ((if x65 = 0 then 0 else 1) : Int32) → im_lk L' 0 = some (.ref 108) → im_lk L' 1 = some (.int p0) → im_lk L' 2 = some (.int p1) → im_lk L' 3 = some (.int p2) → im_lk L' 4 = some (.int x42) → im_lk L' 5 = some (.int x4) → im_lk L' 6 = some (.int ((if ¬ x5 = 6 then x5 else 5) : Int32)) → im_lk L' 7 = some (.int x43) → im_lk L' 10 = some (.int x63) → ia (tb_G L xs) (dep + 1) J_MSquareRows_goThrough (rwV w Q) (118, L', [.int z67], M44) := by
                      intro z67 L' e68 l69 l70 l71 l72 l73 l74 l75 l76 l77
                      subst e68
                      refine iq_istore hS 120 J_MSquareRows_goThrough_d118 (by decide) rfl ?_
                      refine iq_iload_n hS 121 J_MSquareRows_goThrough_d120 (lk_1i l71 (by decide)) rfl ?_
                      obtain ⟨Q78, hQ78, h⟩ := bd1_ed h
                      have J78 : ∀ (M103 : im_M) (L' : List (Nat × Value)), lw_S w M103 → im_lk L' 0 = some (.ref 108) → im_lk L' 1 = some (.int p0) → im_lk L' 2 = some (.int p1) → im_lk L' 3 = some (.int p2) → im_lk L' 4 = some (.int x42) → im_lk L' 5 = some (.int x4) → im_lk L' 6 = some (.int ((if ¬ x5 = 6 then x5 else 5) : Int32)) → im_lk L' 7 = some (.int x43) → Q78 M103 → ia (tb_G L xs) (dep + 1) J_MSquareRows_goThrough (rwV w Q) (241, L', [], M103) := by
                        intro M103 L' hM103 l104 l105 l106 l107 l108 l109 l110 l111 h
                        replace h := hQ78 _ h
                        refine iq_iincv hS 244 J_MSquareRows_goThrough_d241 (c := 1) (by decide +kernel) l108 (by decide) rfl ?_
                        exact J64 _ _ _ hM103 (lk_1r l104 (by decide)) (lk_1i l105 (by decide)) (lk_1i l106 (by decide)) (lk_1i l107 (by decide)) lk_1s (lk_1i l109 (by decide)) (lk_1i l110 (by decide)) (lk_1i l111 (by decide)) (ed_some h)
                      obtain ⟨k79, Q79, hQ79, hk79, h⟩ := jn1_ed h
                      have J79 : ∀ (M80 : im_M) (L' : List (Nat × Value)), lw_S w M80 → im_lk L' 0 = some (.ref 108) → im_lk L' 1 = some (.int p0) → im_lk L' 2 = some (.int p1) → im_lk L' 3 = some (.int p2) → im_lk L' 4 = some (.int x42) → im_lk L' 5 = some (.int x4) → im_lk L' 6 = some (.int ((if ¬ x5 = 6 then x5 else 5) : Int32)) → im_lk L' 7 = some (.int x43) → im_lk L' 10 = some (.int x63) → im_lk L' 11 = some (.int ((if x65 = 0 then 0 else 1) : Int32)) → Q79 M80 → ia (tb_G L xs) (dep + 1) J_MSquareRows_goThrough (rwV w Q) (189, L', [], M80) := by
                        intro M80 L' hM80 l81 l82 l83 l84 l85 l86 l87 l88 l89 l90 h
                        replace h := hQ79 _ h
                        refine iq_iload_n hS 190 J_MSquareRows_goThrough_d189 l83 rfl ?_
                        refine iq_if_ne hS 193 J_MSquareRows_goThrough_d190 (t := 241) rfl (fun q190 => ?_) rfl (fun q190 => ?_)
                        · replace h := ed_pos q190 h
                          exact J78 _ _ hM80 l81 l82 l83 l84 l85 l86 l87 l88 (ed_some h)
                        · replace h := ed_neg q190 h
                          refine iq_iload hS 195 J_MSquareRows_goThrough_d193 l85 rfl ?_
                          refine iq_bipush hS 197 J_MSquareRows_goThrough_d195 (v := 8) (by decide +kernel) rfl ?_
                          refine iq_iload_n hS 198 J_MSquareRows_goThrough_d197 l84 rfl ?_
                          refine iq_imul hS 199 J_MSquareRows_goThrough_d198 rfl ?_
                          obtain ⟨Q91, hQ91, h⟩ := bd1_ed h
                          have J91 : ∀ (y92 : Int32) (L' : List (Nat × Value)), im_lk L' 0 = some (.ref 108) → im_lk L' 1 = some (.int p0) → im_lk L' 2 = some (.int p1) → im_lk L' 3 = some (.int p2) → im_lk L' 4 = some (.int x42) → im_lk L' 5 = some (.int x4) → im_lk L' 6 = some (.int ((if ¬ x5 = 6 then x5 else 5) : Int32)) → im_lk L' 7 = some (.int x43) → im_lk L' 10 = some (.int x63) → im_lk L' 11 = some (.int ((if x65 = 0 then 0 else 1) : Int32)) → Q91 y92 → ia (tb_G L xs) (dep + 1) J_MSquareRows_goThrough (rwV w Q) (227, L', [.int y92], M80) := by
                            intro y92 L' l93 l94 l95 l96 l97 l98 l99 l100 l101 l102 h
                            replace h := hQ91 _ h
                            refine iq_istore hS 229 J_MSquareRows_goThrough_d227 (by decide) rfl ?_
                            refine iq_aload_n hS 230 J_MSquareRows_goThrough_d229 (lk_1r l93 (by decide)) rfl ?_
                            refine iq_getR hS 233 J_MSquareRows_goThrough_d230 lf_16_19 (Or.inr ⟨_, rfl⟩) (ka_108 hM80) (ra_108_5 hM80) rfl ?_
                            refine iq_iload hS 235 J_MSquareRows_goThrough_d233 (lk_1i l101 (by decide)) rfl ?_
                            refine iq_iload hS 237 J_MSquareRows_goThrough_d235 lk_1s rfl ?_
                            refine iq_iload hS 239 J_MSquareRows_goThrough_d237 (lk_1i l102 (by decide)) rfl ?_
                            refine iq_ixor hS 240 J_MSquareRows_goThrough_d239 rfl ?_
                            obtain ⟨g240, h⟩ := ed_gd h
                            refine iq_iastore hS 241 J_MSquareRows_goThrough_d240 ⟨(ka_112 hM80).1, (ka_112 hM80).2, g240.1, ix_lt (kl_112 hM80) g240.2⟩ rfl ?_
                            exact J78 _ _ (lw_sI hM80) (lk_1r l93 (by decide)) (lk_1i l94 (by decide)) (lk_1i l95 (by decide)) (lk_1i l96 (by decide)) (lk_1i l97 (by decide)) (lk_1i l98 (by decide)) (lk_1i l99 (by decide)) (lk_1i l100 (by decide)) (ed_some h)
                          refine iq_icmp_ge hS 202 J_MSquareRows_goThrough_d199 (t := 226) rfl (fun q199 => ?_) rfl (fun q199 => ?_)
                          · replace h := ed_pos q199 h
                            refine iq_iconst hS 227 J_MSquareRows_goThrough_d226 (v := 0) (by decide +kernel) rfl ?_
                            exact J91 _ _ l81 l82 l83 l84 l85 l86 l87 l88 l89 l90 (ed_some h)
                          · replace h := ed_neg q199 h
                            refine iq_aload_n hS 203 J_MSquareRows_goThrough_d202 l81 rfl ?_
                            refine iq_getR hS 206 J_MSquareRows_goThrough_d203 lf_16_43 (Or.inr ⟨_, rfl⟩) (ka_108 hM80) (ra_108_18 hM80) rfl ?_
                            refine iq_iload hS 208 J_MSquareRows_goThrough_d206 l85 rfl ?_
                            refine iq_bipush hS 210 J_MSquareRows_goThrough_d208 (v := 8) (by decide +kernel) rfl ?_
                            refine iq_idiv hS 211 J_MSquareRows_goThrough_d210 (by decide) rfl ?_
                            obtain ⟨g211, h⟩ := ed_gd h
                            refine iq_iaload hS 212 J_MSquareRows_goThrough_d211 ⟨(ka_120 hM80).1, (ka_120 hM80).2, g211.1, ix_lt (kl_120 hM80) g211.2⟩ rfl ?_
                            refine iq_bipush hS 214 J_MSquareRows_goThrough_d212 (v := 7) (by decide +kernel) rfl ?_
                            refine iq_iload hS 216 J_MSquareRows_goThrough_d214 l85 rfl ?_
                            refine iq_bipush hS 218 J_MSquareRows_goThrough_d216 (v := 8) (by decide +kernel) rfl ?_
                            refine iq_irem hS 219 J_MSquareRows_goThrough_d218 (by decide) rfl ?_
                            refine iq_isub hS 220 J_MSquareRows_goThrough_d219 rfl ?_
                            refine iq_ishr hS 221 J_MSquareRows_goThrough_d220 rfl ?_
                            refine iq_iconst hS 222 J_MSquareRows_goThrough_d221 (v := 1) (by decide +kernel) rfl ?_
                            refine iq_iand hS 223 J_MSquareRows_goThrough_d222 rfl ?_
                            refine iq_goto hS J_MSquareRows_goThrough_d223 (t := 227) rfl ?_
                            exact J91 _ _ l81 l82 l83 l84 l85 l86 l87 l88 l89 l90 (ed_some h)
                      refine iq_if_eq hS 124 J_MSquareRows_goThrough_d121 (t := 189) rfl (fun q121 => ?_) rfl (fun q121 => ?_)
                      · replace h := ed_pos q121 h
                        exact J79 _ _ hM44 (lk_1r l69 (by decide)) (lk_1i l70 (by decide)) (lk_1i l71 (by decide)) (lk_1i l72 (by decide)) (lk_1i l73 (by decide)) (lk_1i l74 (by decide)) (lk_1i l75 (by decide)) (lk_1i l76 (by decide)) (lk_1i l77 (by decide)) lk_1s (hk79 _ h)
                      · replace h := ed_neg q121 h
                        refine iq_iload hS 126 J_MSquareRows_goThrough_d124 (lk_1i l73 (by decide)) rfl ?_
                        refine iq_bipush hS 128 J_MSquareRows_goThrough_d126 (v := 8) (by decide +kernel) rfl ?_
                        refine iq_iload_n hS 129 J_MSquareRows_goThrough_d128 (lk_1i l72 (by decide)) rfl ?_
                        refine iq_imul hS 130 J_MSquareRows_goThrough_d129 rfl ?_
                        refine iq_icmp_ge hS 133 J_MSquareRows_goThrough_d130 (t := 189) rfl (fun q130 => ?_) rfl (fun q130 => ?_)
                        · replace h := ed_pos q130 h
                          exact J79 _ _ hM44 (lk_1r l69 (by decide)) (lk_1i l70 (by decide)) (lk_1i l71 (by decide)) (lk_1i l72 (by decide)) (lk_1i l73 (by decide)) (lk_1i l74 (by decide)) (lk_1i l75 (by decide)) (lk_1i l76 (by decide)) (lk_1i l77 (by decide)) lk_1s (hk79 _ h)
                        · replace h := ed_neg q130 h
                          refine iq_aload_n hS 134 J_MSquareRows_goThrough_d133 (lk_1r l69 (by decide)) rfl ?_
                          refine iq_getR hS 137 J_MSquareRows_goThrough_d134 lf_16_43 (Or.inr ⟨_, rfl⟩) (ka_108 hM44) (ra_108_18 hM44) rfl ?_
                          refine iq_iload hS 139 J_MSquareRows_goThrough_d137 (lk_1i l73 (by decide)) rfl ?_
                          refine iq_bipush hS 141 J_MSquareRows_goThrough_d139 (v := 8) (by decide +kernel) rfl ?_
                          refine iq_idiv hS 142 J_MSquareRows_goThrough_d141 (by decide) rfl ?_
                          refine iq_aload_n hS 143 J_MSquareRows_goThrough_d142 (lk_1r l69 (by decide)) rfl ?_
                          refine iq_getR hS 146 J_MSquareRows_goThrough_d143 lf_16_43 (Or.inr ⟨_, rfl⟩) (ka_108 hM44) (ra_108_18 hM44) rfl ?_
                          refine iq_iload hS 148 J_MSquareRows_goThrough_d146 (lk_1i l73 (by decide)) rfl ?_
                          refine iq_bipush hS 150 J_MSquareRows_goThrough_d148 (v := 8) (by decide +kernel) rfl ?_
                          refine iq_idiv hS 151 J_MSquareRows_goThrough_d150 (by decide) rfl ?_
                          obtain ⟨g151, h⟩ := ed_gd h
                          refine iq_iaload hS 152 J_MSquareRows_goThrough_d151 ⟨(ka_120 hM44).1, (ka_120 hM44).2, g151.1, ix_lt (kl_120 hM44) g151.2⟩ rfl ?_
                          refine iq_iconst hS 153 J_MSquareRows_goThrough_d152 (v := 1) (by decide +kernel) rfl ?_
                          refine iq_bipush hS 155 J_MSquareRows_goThrough_d153 (v := 7) (by decide +kernel) rfl ?_
                          refine iq_iload hS 157 J_MSquareRows_goThrough_d155 (lk_1i l73 (by decide)) rfl ?_
                          refine iq_bipush hS 159 J_MSquareRows_goThrough_d157 (v := 8) (by decide +kernel) rfl ?_
                          refine iq_irem hS 160 J_MSquareRows_goThrough_d159 (by decide) rfl ?_
                          refine iq_isub hS 161 J_MSquareRows_goThrough_d160 rfl ?_
                          refine iq_ishl hS 162 J_MSquareRows_goThrough_d161 rfl ?_
                          refine iq_iconst hS 163 J_MSquareRows_goThrough_d162 (v := (-1)) (by decide +kernel) rfl ?_
                          refine iq_ixor hS 164 J_MSquareRows_goThrough_d163 rfl ?_
                          refine iq_iand hS 165 J_MSquareRows_goThrough_d164 rfl ?_
                          refine iq_aload_n hS 166 J_MSquareRows_goThrough_d165 (lk_1r l69 (by decide)) rfl ?_
                          refine iq_getR hS 169 J_MSquareRows_goThrough_d166 lf_16_19 (Or.inr ⟨_, rfl⟩) (ka_108 hM44) (ra_108_5 hM44) rfl ?_
                          refine iq_iload hS 171 J_MSquareRows_goThrough_d169 (lk_1i l77 (by decide)) rfl ?_
                          obtain ⟨g171, h⟩ := ed_gd h
                          refine iq_iaload hS 172 J_MSquareRows_goThrough_d171 ⟨(ka_112 hM44).1, (ka_112 hM44).2, g171.1, ix_lt (kl_112 hM44) g171.2⟩ rfl ?_
                          refine iq_iload hS 174 J_MSquareRows_goThrough_d172 lk_1s rfl ?_
                          refine iq_ixor hS 175 J_MSquareRows_goThrough_d174 rfl ?_
                          refine iq_bipush hS 177 J_MSquareRows_goThrough_d175 (v := 7) (by decide +kernel) rfl ?_
                          refine iq_iload hS 179 J_MSquareRows_goThrough_d177 (lk_1i l73 (by decide)) rfl ?_
                          refine iq_bipush hS 181 J_MSquareRows_goThrough_d179 (v := 8) (by decide +kernel) rfl ?_
                          refine iq_irem hS 182 J_MSquareRows_goThrough_d181 (by decide) rfl ?_
                          refine iq_isub hS 183 J_MSquareRows_goThrough_d182 rfl ?_
                          refine iq_ishl hS 184 J_MSquareRows_goThrough_d183 rfl ?_
                          refine iq_ior hS 185 J_MSquareRows_goThrough_d184 rfl ?_
                          obtain ⟨g185, h⟩ := ed_gd h
                          refine iq_iastore hS 186 J_MSquareRows_goThrough_d185 ⟨(ka_120 hM44).1, (ka_120 hM44).2, g185.1, ix_lt (kl_120 hM44) g185.2⟩ rfl ?_
                          refine iq_goto hS J_MSquareRows_goThrough_d186 (t := 241) rfl ?_
                          exact J78 _ _ (lw_sI hM44) (lk_1r l69 (by decide)) (lk_1i l70 (by decide)) (lk_1i l71 (by decide)) (lk_1i l72 (by decide)) (lk_1i l73 (by decide)) (lk_1i l74 (by decide)) (lk_1i l75 (by decide)) (lk_1i l76 (by decide)) (ed_some h)
                    refine iq_if_eq hS 113 J_MSquareRows_goThrough_d110 (t := 117) rfl (fun q110 => ?_) rfl (fun q110 => ?_)
                    · refine iq_iconst hS 118 J_MSquareRows_goThrough_d117 (v := 0) (by decide +kernel) rfl ?_
                      exact J66 _ _ (by simp only [if_pos q110]) (lk_1r (lk_1r (lk_1r l55 (by decide)) (by decide)) (by decide)) (lk_1i (lk_1i (lk_1i l56 (by decide)) (by decide)) (by decide)) (lk_1i (lk_1i (lk_1i l57 (by decide)) (by decide)) (by decide)) (lk_1i (lk_1i (lk_1i l58 (by decide)) (by decide)) (by decide)) (lk_1i (lk_1i (lk_1i l59 (by decide)) (by decide)) (by decide)) (lk_1i (lk_1i (lk_1i l60 (by decide)) (by decide)) (by decide)) (lk_1i (lk_1i (lk_1i l61 (by decide)) (by decide)) (by decide)) (lk_1i (lk_1i (lk_1i l62 (by decide)) (by decide)) (by decide)) lk_1s
                    · refine iq_iconst hS 114 J_MSquareRows_goThrough_d113 (v := 1) (by decide +kernel) rfl ?_
                      refine iq_goto hS J_MSquareRows_goThrough_d114 (t := 118) rfl ?_
                      exact J66 _ _ (by simp only [if_neg q110]) (lk_1r (lk_1r (lk_1r l55 (by decide)) (by decide)) (by decide)) (lk_1i (lk_1i (lk_1i l56 (by decide)) (by decide)) (by decide)) (lk_1i (lk_1i (lk_1i l57 (by decide)) (by decide)) (by decide)) (lk_1i (lk_1i (lk_1i l58 (by decide)) (by decide)) (by decide)) (lk_1i (lk_1i (lk_1i l59 (by decide)) (by decide)) (by decide)) (lk_1i (lk_1i (lk_1i l60 (by decide)) (by decide)) (by decide)) (lk_1i (lk_1i (lk_1i l61 (by decide)) (by decide)) (by decide)) (lk_1i (lk_1i (lk_1i l62 (by decide)) (by decide)) (by decide)) lk_1s
                refine iq_if_eq hS 53 J_MSquareRows_goThrough_d50 (t := 67) rfl (fun q50 => ?_) rfl (fun q50 => ?_)
                · replace h := ed_pos q50 h
                  refine iq_iload hS 69 J_MSquareRows_goThrough_d67 l52 rfl ?_
                  refine iq_iconst hS 70 J_MSquareRows_goThrough_d69 (v := 2) (by decide +kernel) rfl ?_
                  refine iq_idiv hS 71 J_MSquareRows_goThrough_d70 (by decide) rfl ?_
                  exact J53 _ _ l45 l46 l47 l48 l49 l50 l51 l52 (ed_some h)
                · replace h := ed_neg q50 h
                  refine iq_aload_n hS 54 J_MSquareRows_goThrough_d53 l45 rfl ?_
                  refine iq_getI hS 57 J_MSquareRows_goThrough_d54 lf_16_163 (Or.inl rfl) (ka_108 hM44) rfl ?_
                  refine iq_iconst hS 58 J_MSquareRows_goThrough_d57 (v := 1) (by decide +kernel) rfl ?_
                  refine iq_isub hS 59 J_MSquareRows_goThrough_d58 rfl ?_
                  refine iq_iload hS 61 J_MSquareRows_goThrough_d59 l52 rfl ?_
                  refine iq_iconst hS 62 J_MSquareRows_goThrough_d61 (v := 2) (by decide +kernel) rfl ?_
                  refine iq_idiv hS 63 J_MSquareRows_goThrough_d62 (by decide) rfl ?_
                  refine iq_isub hS 64 J_MSquareRows_goThrough_d63 rfl ?_
                  refine iq_goto hS J_MSquareRows_goThrough_d64 (t := 71) rfl ?_
                  exact J53 _ _ l45 l46 l47 l48 l49 l50 l51 l52 (ed_some h)
          exact I23 n23 _ _ _ _ hM6 (lk_1r (lk_1r l17 (by decide)) (by decide)) (lk_1i (lk_1i l18 (by decide)) (by decide)) (lk_1i (lk_1i l19 (by decide)) (by decide)) (lk_1i (lk_1i l20 (by decide)) (by decide)) (lk_1i (lk_1i l21 (by decide)) (by decide)) (lk_1i (lk_1i l22 (by decide)) (by decide)) (lk_1i lk_1s (by decide)) lk_1s hn23
        refine iq_icmp_ne hS 26 J_MSquareRows_goThrough_d23 (t := 30) rfl (fun q23 => ?_) rfl (fun q23 => ?_)
        · refine iq_iload hS 32 J_MSquareRows_goThrough_d30 l13 rfl ?_
          exact J14 _ _ (by simp only [if_pos q23]) l7 l8 l9 l10 l11 l12
        · refine iq_iconst hS 27 J_MSquareRows_goThrough_d26 (v := 5) (by decide +kernel) rfl ?_
          refine iq_goto hS J_MSquareRows_goThrough_d27 (t := 32) rfl ?_
          exact J14 _ _ (by simp only [if_neg q23]) l7 l8 l9 l10 l11 l12
  exact I1 n1 _ _ _ _ _ hM (lk_1r (lk_1r (lk_1r l0 (by decide)) (by decide)) (by decide)) (lk_1i (lk_1i (lk_1i l1 (by decide)) (by decide)) (by decide)) (lk_1i (lk_1i (lk_1i l2 (by decide)) (by decide)) (by decide)) (lk_1i (lk_1i (lk_1i l3 (by decide)) (by decide)) (by decide)) (lk_1i (lk_1i lk_1s (by decide)) (by decide)) (lk_1i lk_1s (by decide)) lk_1s hn1
theorem f_MSquareRows_goThrough_fr {p0 : Int32} {p1 : Int32} {p2 : Int32} {M : im_M} {r : im_M} (h : f_MSquareRows_goThrough p0 p1 p2 M = some r) : fr 1334420292643450700532337556609564672 [] M r := by
  replace h : ed (f_MSquareRows_goThrough p0 p1 p2 M) (fun x => x = r) := ⟨r, h, rfl⟩
  unfold f_MSquareRows_goThrough at h
  obtain ⟨Q1, hQ1, h⟩ := bd1_ed h
  have K1 : ∀ (M2 : im_M), fr 1334420292643450700532337556609564672 [] M M2 → Q1 M2 → fr 1334420292643450700532337556609564672 [] M r := by
    intro M2 hM2 h
    replace h := hQ1 _ h
    exact fr_retV h hM2
  obtain ⟨r1, hr1, hq1⟩ := h
  obtain ⟨n1, hn1⟩ := lp_n hr1
  have I1 : ∀ (n : Nat) (x3 : Int32) (x4 : Int32) (x5 : Int32) (M6 : im_M), fr 1334420292643450700532337556609564672 [] M M6 → lpn (uc4 (f_MSquareRows_goThrough_L14 p0 p1 p2)) n (x3, x4, x5, M6) = some r1 → fr 1334420292643450700532337556609564672 [] M r := by
    intro n
    induction n with
    | zero => intro x3 x4 x5 M6 hM6 hn; exact (lpn_0 hn).elim
    | succ n ih =>
      intro x3 x4 x5 M6 hM6 hn
      have h := lpn_ed4 hn
      unfold f_MSquareRows_goThrough_L14 at h
      by_cases q16 : x5 ≤ 0
      · replace h := ed_pos q16 h
        exact K1 _ hM6 (lq_r h hq1)
      · replace h := ed_neg q16 h
        obtain ⟨Q8, hQ8, h⟩ := bd2_ed h
        have K8 : ∀ (y9 : Int32) (M10 : im_M), fr 1334420292643450700532337556609564672 [] M M10 → Q8 (y9, M10) → fr 1334420292643450700532337556609564672 [] M r := by
          intro y9 M10 hM10 h
          replace h := hQ8 _ _ h
          exact ih _ _ _ _ hM10 (lq_l h)
        obtain ⟨r8, hr8, hq8⟩ := h
        obtain ⟨n8, hn8⟩ := lp_n hr8
        have I8 : ∀ (n : Nat) (x12 : Int32) (x13 : Int32) (M14 : im_M), fr 1334420292643450700532337556609564672 [] M M14 → lpn (uc3 (f_MSquareRows_goThrough_L37 p0 p1 p2 x4 ((if ¬ x5 = 6 then x5 else 5) : Int32))) n (x12, x13, M14) = some r8 → fr 1334420292643450700532337556609564672 [] M r := by
          intro n
          induction n with
          | zero => intro x12 x13 M14 hM14 hn; exact (lpn_0 hn).elim
          | succ n ih =>
            intro x12 x13 M14 hM14 hn
            have h := lpn_ed3 hn
            unfold f_MSquareRows_goThrough_L37 at h
            by_cases q45 : ((2 : Int32) * (im_i M14 108 8)) ≤ x13
            · replace h := ed_pos q45 h
              exact K8 _ _ hM14 (lq_r h hq8)
            · replace h := ed_neg q45 h
              obtain ⟨Q15, hQ15, h⟩ := bd1_ed h
              have J15 : ∀ (y16 : Int32), Q15 y16 → fr 1334420292643450700532337556609564672 [] M r := by
                intro y16 h
                replace h := hQ15 _ h
                obtain ⟨Q25, hQ25, h⟩ := bd1_ed h
                obtain ⟨x25, e25, h⟩ := h
                replace h := hQ25 _ h
                obtain ⟨g98, h⟩ := ed_gd h
                obtain ⟨Q26, hQ26, h⟩ := bd2_ed h
                have J26 : ∀ (y63 : Int32) (M64 : im_M), fr 1334420292643450700532337556609564672 [] M M64 → Q26 (y63, M64) → fr 1334420292643450700532337556609564672 [] M r := by
                  intro y63 M64 hM64 h
                  replace h := hQ26 _ _ h
                  exact ih _ _ _ hM64 (lq_l h)
                by_cases q99 : ¬ (im_i M14 113 (Int32.toNatClampNeg x25)) = 0
                · replace h := ed_pos q99 h
                  exact J26 _ _ hM14 (ed_some h)
                · replace h := ed_neg q99 h
                  obtain ⟨Q27, hQ27, h⟩ := bd1_ed h
                  obtain ⟨x27, e27, h⟩ := h
                  replace h := hQ27 _ h
                  obtain ⟨Q29, hQ29, h⟩ := bd1_ed h
                  have J29 : ∀ (M54 : im_M), fr 1334420292643450700532337556609564672 [] M M54 → Q29 M54 → fr 1334420292643450700532337556609564672 [] M r := by
                    intro M54 hM54 h
                    replace h := hQ29 _ h
                    exact J26 _ _ hM54 (ed_some h)
                  obtain ⟨k30, Q30, hQ30, hk30, h⟩ := jn1_ed h
                  have J30 : ∀ (M31 : im_M), fr 1334420292643450700532337556609564672 [] M M31 → Q30 M31 → fr 1334420292643450700532337556609564672 [] M r := by
                    intro M31 hM31 h
                    replace h := hQ30 _ h
                    by_cases q190 : ¬ p1 = 0
                    · replace h := ed_pos q190 h
                      exact J29 _ hM31 (ed_some h)
                    · replace h := ed_neg q190 h
                      obtain ⟨Q42, hQ42, h⟩ := bd1_ed h
                      have J42 : ∀ (y43 : Int32), Q42 y43 → fr 1334420292643450700532337556609564672 [] M r := by
                        intro y43 h
                        replace h := hQ42 _ h
                        obtain ⟨g240, h⟩ := ed_gd h
                        exact J29 _ (fr_I (by decide) hM31) (ed_some h)
                      by_cases q199 : ((8 : Int32) * p2) ≤ x12
                      · replace h := ed_pos q199 h
                        exact J42 _ (ed_some h)
                      · replace h := ed_neg q199 h
                        obtain ⟨g211, h⟩ := ed_gd h
                        exact J42 _ (ed_some h)
                  by_cases q121 : p1 = 0
                  · replace h := ed_pos q121 h
                    exact J30 _ hM14 (hk30 _ h)
                  · replace h := ed_neg q121 h
                    by_cases q130 : ((8 : Int32) * p2) ≤ x12
                    · replace h := ed_pos q130 h
                      exact J30 _ hM14 (hk30 _ h)
                    · replace h := ed_neg q130 h
                      obtain ⟨g151, h⟩ := ed_gd h
                      obtain ⟨g171, h⟩ := ed_gd h
                      obtain ⟨g185, h⟩ := ed_gd h
                      exact J29 _ (fr_I (by decide) hM14) (ed_some h)
              by_cases q50 : x4 = 0
              · replace h := ed_pos q50 h
                exact J15 _ (ed_some h)
              · replace h := ed_neg q50 h
                exact J15 _ (ed_some h)
        exact I8 n8 _ _ _ hM6 hn8
  exact I1 n1 _ _ _ _ fr_refl hn1
noncomputable def f_MSquareRows_module (p0 : Int32) (p1 : Int32) (p2 : Int32) (M : im_M) : Option (Int32) := gd (inb ((if p2 = 0 then (p0 + ((177 : Int32) * p1)) else (p1 + ((177 : Int32) * p0))) : Int32) 31329) <| some (im_i M 112 (Int32.toNatClampNeg ((if p2 = 0 then (p0 + ((177 : Int32) * p1)) else (p1 + ((177 : Int32) * p0))) : Int32)))
theorem J_MSquareRows_module_d0 : decode J_MSquareRows_module.2.1 0 = .ok (.aload_n 0, 1) := by decide +kernel
theorem J_MSquareRows_module_d1 : decode J_MSquareRows_module.2.1 1 = .ok (.getfield 19, 3) := by decide +kernel
theorem J_MSquareRows_module_d4 : decode J_MSquareRows_module.2.1 4 = .ok (.iload_n 3, 1) := by decide +kernel
theorem J_MSquareRows_module_d5 : decode J_MSquareRows_module.2.1 5 = .ok (.ifCond .eq 13, 3) := by decide +kernel
theorem J_MSquareRows_module_d8 : decode J_MSquareRows_module.2.1 8 = .ok (.iload_n 2, 1) := by decide +kernel
theorem J_MSquareRows_module_d9 : decode J_MSquareRows_module.2.1 9 = .ok (.sipush 177, 3) := by decide +kernel
theorem J_MSquareRows_module_d12 : decode J_MSquareRows_module.2.1 12 = .ok (.iload_n 1, 1) := by decide +kernel
theorem J_MSquareRows_module_d13 : decode J_MSquareRows_module.2.1 13 = .ok (.imul, 1) := by decide +kernel
theorem J_MSquareRows_module_d14 : decode J_MSquareRows_module.2.1 14 = .ok (.iadd, 1) := by decide +kernel
theorem J_MSquareRows_module_d15 : decode J_MSquareRows_module.2.1 15 = .ok (.goto 10, 3) := by decide +kernel
theorem J_MSquareRows_module_d18 : decode J_MSquareRows_module.2.1 18 = .ok (.iload_n 1, 1) := by decide +kernel
theorem J_MSquareRows_module_d19 : decode J_MSquareRows_module.2.1 19 = .ok (.sipush 177, 3) := by decide +kernel
theorem J_MSquareRows_module_d22 : decode J_MSquareRows_module.2.1 22 = .ok (.iload_n 2, 1) := by decide +kernel
theorem J_MSquareRows_module_d23 : decode J_MSquareRows_module.2.1 23 = .ok (.imul, 1) := by decide +kernel
theorem J_MSquareRows_module_d24 : decode J_MSquareRows_module.2.1 24 = .ok (.iadd, 1) := by decide +kernel
theorem J_MSquareRows_module_d25 : decode J_MSquareRows_module.2.1 25 = .ok (.iaload, 1) := by decide +kernel
theorem J_MSquareRows_module_d26 : decode J_MSquareRows_module.2.1 26 = .ok (.ireturn, 1) := by decide +kernel
theorem f_MSquareRows_module_ok {L : Nat} {xs : Nat → Int32} {dep : Nat} {w : Bool} {p0 : Int32} {p1 : Int32} {p2 : Int32} {M : im_M} {Q : Int32 → Prop} (hM : lw_S w M) (h : ed (f_MSquareRows_module p0 p1 p2 M) Q) : ia (tb_G L xs) dep J_MSquareRows_module (rpI M Q) (0, lv_args 0 [.ref 108, .int p0, .int p1, .int p2], [], M) := by
  have hS : im_St (tb_G L xs) dep J_MSquareRows_module (ia (tb_G L xs) dep J_MSquareRows_module (rpI M Q)) := ia_St
  unfold f_MSquareRows_module at h
  have l0 : im_lk (lv_args 0 [.ref 108, .int p0, .int p1, .int p2]) 0 = some (.ref 108) := rfl
  have l1 : im_lk (lv_args 0 [.ref 108, .int p0, .int p1, .int p2]) 1 = some (.int p0) := rfl
  have l2 : im_lk (lv_args 0 [.ref 108, .int p0, .int p1, .int p2]) 2 = some (.int p1) := rfl
  have l3 : im_lk (lv_args 0 [.ref 108, .int p0, .int p1, .int p2]) 3 = some (.int p2) := rfl
  refine iq_aload_n hS 1 J_MSquareRows_module_d0 l0 rfl ?_
  refine iq_getR hS 4 J_MSquareRows_module_d1 lf_16_19 (Or.inr ⟨_, rfl⟩) (ka_108 hM) (ra_108_5 hM) rfl ?_
  refine iq_iload_n hS 5 J_MSquareRows_module_d4 l3 rfl ?_
  have J1 : ∀ (z2 : Int32) (L' : List (Nat × Value)), z2 = ((if p2 = 0 then (p0 + ((177 : Int32) * p1)) else (p1 + ((177 : Int32) * p0))) : Int32) → ia (tb_G L xs) dep J_MSquareRows_module (rpI M Q) (25, L', [.int z2, .ref 112], M) := by
    intro z2 L' e3 
    subst e3
    obtain ⟨g25, h⟩ := ed_gd h
    refine iq_iaload hS 26 J_MSquareRows_module_d25 ⟨(ka_112 hM).1, (ka_112 hM).2, g25.1, ix_lt (kl_112 hM) g25.2⟩ rfl ?_
    exact iq_iret J_MSquareRows_module_d26 rfl rfl ⟨_, rfl, rfl, ed_some h⟩
  refine iq_if_eq hS 8 J_MSquareRows_module_d5 (t := 18) rfl (fun q5 => ?_) rfl (fun q5 => ?_)
  · refine iq_iload_n hS 19 J_MSquareRows_module_d18 l1 rfl ?_
    refine iq_sipush hS 22 J_MSquareRows_module_d19 (v := 177) (by decide +kernel) rfl ?_
    refine iq_iload_n hS 23 J_MSquareRows_module_d22 l2 rfl ?_
    refine iq_imul hS 24 J_MSquareRows_module_d23 rfl ?_
    refine iq_iadd hS 25 J_MSquareRows_module_d24 rfl ?_
    exact J1 _ _ (by simp only [if_pos q5]) 
  · refine iq_iload_n hS 9 J_MSquareRows_module_d8 l2 rfl ?_
    refine iq_sipush hS 12 J_MSquareRows_module_d9 (v := 177) (by decide +kernel) rfl ?_
    refine iq_iload_n hS 13 J_MSquareRows_module_d12 l1 rfl ?_
    refine iq_imul hS 14 J_MSquareRows_module_d13 rfl ?_
    refine iq_iadd hS 15 J_MSquareRows_module_d14 rfl ?_
    refine iq_goto hS J_MSquareRows_module_d15 (t := 25) rfl ?_
    exact J1 _ _ (by simp only [if_neg q5]) 
noncomputable def f_MSquareRows_lines_L21 (v7 : Int32) (v8 : Int32) (M13 : im_M) (x9 : Int32) (x10 : Int32) (x11 : Int32) (x12 : Int32) : Option ((Int32 × Int32 × Int32 × Int32) ⊕ (Int32)) := if (im_i M13 108 8) ≤ x12 then some (.inr x9) else bd1 (f_MSquareRows_module x12 v8 v7 M13) fun (x14 : Int32) => bd1 (jn0 (fun (_ : Unit) => some 1) fun k16 => if x12 ≤ 0 then k16 () else bd1 (f_MSquareRows_module (x12 - 1) v8 v7 M13) fun (x17 : Int32) => if ¬ x17 = x14 then k16 () else some (x10 + 1)) fun (y25 : Int32) => some (.inl (((if x12 < 10 then ((if ¬ y25 = 5 then (if y25 ≤ 5 then x9 else (x9 + 1)) else (x9 + 3)) : Int32) else (if (((x11 <<< (1 &&& 31 : Int32) : Int32) ||| x14) &&& 2047) = 1488 then (((if ¬ y25 = 5 then (if y25 ≤ 5 then x9 else (x9 + 1)) else (x9 + 3)) : Int32) + 40) else (if ¬ (((x11 <<< (1 &&& 31 : Int32) : Int32) ||| x14) &&& 2047) = 93 then ((if ¬ y25 = 5 then (if y25 ≤ 5 then x9 else (x9 + 1)) else (x9 + 3)) : Int32) else (((if ¬ y25 = 5 then (if y25 ≤ 5 then x9 else (x9 + 1)) else (x9 + 3)) : Int32) + 40)))) : Int32), y25, (((x11 <<< (1 &&& 31 : Int32) : Int32) ||| x14) &&& 2047), (x12 + 1)))
noncomputable def f_MSquareRows_lines_L4 (v2 : Int32) (M5 : im_M) (x3 : Int32) (x4 : Int32) : Option ((Int32 × Int32) ⊕ (Int32)) := if (im_i M5 108 8) ≤ x4 then some (.inr x3) else bd1 (lp (uc4 (f_MSquareRows_lines_L21 v2 x4 M5)) (x3, 0, 0, 0)) fun (y35 : Int32) => some (.inl (y35, (x4 + 1)))
noncomputable def f_MSquareRows_lines (p0 : Int32) (M : im_M) : Option (Int32) := bd1 (lp (uc2 (f_MSquareRows_lines_L4 p0 M)) (0, 0)) fun (y36 : Int32) => some y36
theorem J_MSquareRows_lines_d0 : decode J_MSquareRows_lines.2.1 0 = .ok (.iconst 0, 1) := by decide +kernel
theorem J_MSquareRows_lines_d1 : decode J_MSquareRows_lines.2.1 1 = .ok (.istore_n 2, 1) := by decide +kernel
theorem J_MSquareRows_lines_d2 : decode J_MSquareRows_lines.2.1 2 = .ok (.iconst 0, 1) := by decide +kernel
theorem J_MSquareRows_lines_d3 : decode J_MSquareRows_lines.2.1 3 = .ok (.istore_n 3, 1) := by decide +kernel
theorem J_MSquareRows_lines_d4 : decode J_MSquareRows_lines.2.1 4 = .ok (.iload_n 3, 1) := by decide +kernel
theorem J_MSquareRows_lines_d5 : decode J_MSquareRows_lines.2.1 5 = .ok (.aload_n 0, 1) := by decide +kernel
theorem J_MSquareRows_lines_d6 : decode J_MSquareRows_lines.2.1 6 = .ok (.getfield 163, 3) := by decide +kernel
theorem J_MSquareRows_lines_d9 : decode J_MSquareRows_lines.2.1 9 = .ok (.if_icmp .ge 143, 3) := by decide +kernel
theorem J_MSquareRows_lines_d12 : decode J_MSquareRows_lines.2.1 12 = .ok (.iconst 0, 1) := by decide +kernel
theorem J_MSquareRows_lines_d13 : decode J_MSquareRows_lines.2.1 13 = .ok (.istore 4, 2) := by decide +kernel
theorem J_MSquareRows_lines_d15 : decode J_MSquareRows_lines.2.1 15 = .ok (.iconst 0, 1) := by decide +kernel
theorem J_MSquareRows_lines_d16 : decode J_MSquareRows_lines.2.1 16 = .ok (.istore 5, 2) := by decide +kernel
theorem J_MSquareRows_lines_d18 : decode J_MSquareRows_lines.2.1 18 = .ok (.iconst 0, 1) := by decide +kernel
theorem J_MSquareRows_lines_d19 : decode J_MSquareRows_lines.2.1 19 = .ok (.istore 6, 2) := by decide +kernel
theorem J_MSquareRows_lines_d21 : decode J_MSquareRows_lines.2.1 21 = .ok (.iload 6, 2) := by decide +kernel
theorem J_MSquareRows_lines_d23 : decode J_MSquareRows_lines.2.1 23 = .ok (.aload_n 0, 1) := by decide +kernel
theorem J_MSquareRows_lines_d24 : decode J_MSquareRows_lines.2.1 24 = .ok (.getfield 163, 3) := by decide +kernel
theorem J_MSquareRows_lines_d27 : decode J_MSquareRows_lines.2.1 27 = .ok (.if_icmp .ge 119, 3) := by decide +kernel
theorem J_MSquareRows_lines_d30 : decode J_MSquareRows_lines.2.1 30 = .ok (.aload_n 0, 1) := by decide +kernel
theorem J_MSquareRows_lines_d31 : decode J_MSquareRows_lines.2.1 31 = .ok (.iload 6, 2) := by decide +kernel
theorem J_MSquareRows_lines_d33 : decode J_MSquareRows_lines.2.1 33 = .ok (.iload_n 3, 1) := by decide +kernel
theorem J_MSquareRows_lines_d34 : decode J_MSquareRows_lines.2.1 34 = .ok (.iload_n 1, 1) := by decide +kernel
theorem J_MSquareRows_lines_d35 : decode J_MSquareRows_lines.2.1 35 = .ok (.invokevirtual 206, 3) := by decide +kernel
theorem J_MSquareRows_lines_d38 : decode J_MSquareRows_lines.2.1 38 = .ok (.istore 7, 2) := by decide +kernel
theorem J_MSquareRows_lines_d40 : decode J_MSquareRows_lines.2.1 40 = .ok (.iload 6, 2) := by decide +kernel
theorem J_MSquareRows_lines_d42 : decode J_MSquareRows_lines.2.1 42 = .ok (.ifCond .le 25, 3) := by decide +kernel
theorem J_MSquareRows_lines_d45 : decode J_MSquareRows_lines.2.1 45 = .ok (.aload_n 0, 1) := by decide +kernel
theorem J_MSquareRows_lines_d46 : decode J_MSquareRows_lines.2.1 46 = .ok (.iload 6, 2) := by decide +kernel
theorem J_MSquareRows_lines_d48 : decode J_MSquareRows_lines.2.1 48 = .ok (.iconst 1, 1) := by decide +kernel
theorem J_MSquareRows_lines_d49 : decode J_MSquareRows_lines.2.1 49 = .ok (.isub, 1) := by decide +kernel
theorem J_MSquareRows_lines_d50 : decode J_MSquareRows_lines.2.1 50 = .ok (.iload_n 3, 1) := by decide +kernel
theorem J_MSquareRows_lines_d51 : decode J_MSquareRows_lines.2.1 51 = .ok (.iload_n 1, 1) := by decide +kernel
theorem J_MSquareRows_lines_d52 : decode J_MSquareRows_lines.2.1 52 = .ok (.invokevirtual 206, 3) := by decide +kernel
theorem J_MSquareRows_lines_d55 : decode J_MSquareRows_lines.2.1 55 = .ok (.iload 7, 2) := by decide +kernel
theorem J_MSquareRows_lines_d57 : decode J_MSquareRows_lines.2.1 57 = .ok (.if_icmp .ne 10, 3) := by decide +kernel
theorem J_MSquareRows_lines_d60 : decode J_MSquareRows_lines.2.1 60 = .ok (.iload 4, 2) := by decide +kernel
theorem J_MSquareRows_lines_d62 : decode J_MSquareRows_lines.2.1 62 = .ok (.iconst 1, 1) := by decide +kernel
theorem J_MSquareRows_lines_d63 : decode J_MSquareRows_lines.2.1 63 = .ok (.iadd, 1) := by decide +kernel
theorem J_MSquareRows_lines_d64 : decode J_MSquareRows_lines.2.1 64 = .ok (.goto 4, 3) := by decide +kernel
theorem J_MSquareRows_lines_d67 : decode J_MSquareRows_lines.2.1 67 = .ok (.iconst 1, 1) := by decide +kernel
theorem J_MSquareRows_lines_d68 : decode J_MSquareRows_lines.2.1 68 = .ok (.istore 4, 2) := by decide +kernel
theorem J_MSquareRows_lines_d70 : decode J_MSquareRows_lines.2.1 70 = .ok (.iload 4, 2) := by decide +kernel
theorem J_MSquareRows_lines_d72 : decode J_MSquareRows_lines.2.1 72 = .ok (.iconst 5, 1) := by decide +kernel
theorem J_MSquareRows_lines_d73 : decode J_MSquareRows_lines.2.1 73 = .ok (.if_icmp .ne 9, 3) := by decide +kernel
theorem J_MSquareRows_lines_d76 : decode J_MSquareRows_lines.2.1 76 = .ok (.iload_n 2, 1) := by decide +kernel
theorem J_MSquareRows_lines_d77 : decode J_MSquareRows_lines.2.1 77 = .ok (.iconst 3, 1) := by decide +kernel
theorem J_MSquareRows_lines_d78 : decode J_MSquareRows_lines.2.1 78 = .ok (.iadd, 1) := by decide +kernel
theorem J_MSquareRows_lines_d79 : decode J_MSquareRows_lines.2.1 79 = .ok (.goto 16, 3) := by decide +kernel
theorem J_MSquareRows_lines_d82 : decode J_MSquareRows_lines.2.1 82 = .ok (.iload 4, 2) := by decide +kernel
theorem J_MSquareRows_lines_d84 : decode J_MSquareRows_lines.2.1 84 = .ok (.iconst 5, 1) := by decide +kernel
theorem J_MSquareRows_lines_d85 : decode J_MSquareRows_lines.2.1 85 = .ok (.if_icmp .le 9, 3) := by decide +kernel
theorem J_MSquareRows_lines_d88 : decode J_MSquareRows_lines.2.1 88 = .ok (.iload_n 2, 1) := by decide +kernel
theorem J_MSquareRows_lines_d89 : decode J_MSquareRows_lines.2.1 89 = .ok (.iconst 1, 1) := by decide +kernel
theorem J_MSquareRows_lines_d90 : decode J_MSquareRows_lines.2.1 90 = .ok (.iadd, 1) := by decide +kernel
theorem J_MSquareRows_lines_d91 : decode J_MSquareRows_lines.2.1 91 = .ok (.goto 4, 3) := by decide +kernel
theorem J_MSquareRows_lines_d94 : decode J_MSquareRows_lines.2.1 94 = .ok (.iload_n 2, 1) := by decide +kernel
theorem J_MSquareRows_lines_d95 : decode J_MSquareRows_lines.2.1 95 = .ok (.istore_n 2, 1) := by decide +kernel
theorem J_MSquareRows_lines_d96 : decode J_MSquareRows_lines.2.1 96 = .ok (.iload 5, 2) := by decide +kernel
theorem J_MSquareRows_lines_d98 : decode J_MSquareRows_lines.2.1 98 = .ok (.iconst 1, 1) := by decide +kernel
theorem J_MSquareRows_lines_d99 : decode J_MSquareRows_lines.2.1 99 = .ok (.ishl, 1) := by decide +kernel
theorem J_MSquareRows_lines_d100 : decode J_MSquareRows_lines.2.1 100 = .ok (.iload 7, 2) := by decide +kernel
theorem J_MSquareRows_lines_d102 : decode J_MSquareRows_lines.2.1 102 = .ok (.ior, 1) := by decide +kernel
theorem J_MSquareRows_lines_d103 : decode J_MSquareRows_lines.2.1 103 = .ok (.sipush 2047, 3) := by decide +kernel
theorem J_MSquareRows_lines_d106 : decode J_MSquareRows_lines.2.1 106 = .ok (.iand, 1) := by decide +kernel
theorem J_MSquareRows_lines_d107 : decode J_MSquareRows_lines.2.1 107 = .ok (.istore 5, 2) := by decide +kernel
theorem J_MSquareRows_lines_d109 : decode J_MSquareRows_lines.2.1 109 = .ok (.iload 6, 2) := by decide +kernel
theorem J_MSquareRows_lines_d111 : decode J_MSquareRows_lines.2.1 111 = .ok (.bipush 10, 2) := by decide +kernel
theorem J_MSquareRows_lines_d113 : decode J_MSquareRows_lines.2.1 113 = .ok (.if_icmp .lt 25, 3) := by decide +kernel
theorem J_MSquareRows_lines_d116 : decode J_MSquareRows_lines.2.1 116 = .ok (.iload 5, 2) := by decide +kernel
theorem J_MSquareRows_lines_d118 : decode J_MSquareRows_lines.2.1 118 = .ok (.sipush 1488, 3) := by decide +kernel
theorem J_MSquareRows_lines_d121 : decode J_MSquareRows_lines.2.1 121 = .ok (.if_icmp .eq 10, 3) := by decide +kernel
theorem J_MSquareRows_lines_d124 : decode J_MSquareRows_lines.2.1 124 = .ok (.iload 5, 2) := by decide +kernel
theorem J_MSquareRows_lines_d126 : decode J_MSquareRows_lines.2.1 126 = .ok (.bipush 93, 2) := by decide +kernel
theorem J_MSquareRows_lines_d128 : decode J_MSquareRows_lines.2.1 128 = .ok (.if_icmp .ne 10, 3) := by decide +kernel
theorem J_MSquareRows_lines_d131 : decode J_MSquareRows_lines.2.1 131 = .ok (.iload_n 2, 1) := by decide +kernel
theorem J_MSquareRows_lines_d132 : decode J_MSquareRows_lines.2.1 132 = .ok (.bipush 40, 2) := by decide +kernel
theorem J_MSquareRows_lines_d134 : decode J_MSquareRows_lines.2.1 134 = .ok (.iadd, 1) := by decide +kernel
theorem J_MSquareRows_lines_d135 : decode J_MSquareRows_lines.2.1 135 = .ok (.goto 4, 3) := by decide +kernel
theorem J_MSquareRows_lines_d138 : decode J_MSquareRows_lines.2.1 138 = .ok (.iload_n 2, 1) := by decide +kernel
theorem J_MSquareRows_lines_d139 : decode J_MSquareRows_lines.2.1 139 = .ok (.istore_n 2, 1) := by decide +kernel
theorem J_MSquareRows_lines_d140 : decode J_MSquareRows_lines.2.1 140 = .ok (.iinc 6 1, 3) := by decide +kernel
theorem J_MSquareRows_lines_d143 : decode J_MSquareRows_lines.2.1 143 = .ok (.goto (-122), 3) := by decide +kernel
theorem J_MSquareRows_lines_d146 : decode J_MSquareRows_lines.2.1 146 = .ok (.iinc 3 1, 3) := by decide +kernel
theorem J_MSquareRows_lines_d149 : decode J_MSquareRows_lines.2.1 149 = .ok (.goto (-145), 3) := by decide +kernel
theorem J_MSquareRows_lines_d152 : decode J_MSquareRows_lines.2.1 152 = .ok (.iload_n 2, 1) := by decide +kernel
theorem J_MSquareRows_lines_d153 : decode J_MSquareRows_lines.2.1 153 = .ok (.ireturn, 1) := by decide +kernel
theorem f_MSquareRows_lines_ok {L : Nat} {xs : Nat → Int32} {dep : Nat} {w : Bool} {p0 : Int32} {M : im_M} {Q : Int32 → Prop} (hM : lw_S w M) (h : ed (f_MSquareRows_lines p0 M) Q) : ia (tb_G L xs) (dep + 1) J_MSquareRows_lines (rpI M Q) (0, lv_args 0 [.ref 108, .int p0], [], M) := by
  have hS : im_St (tb_G L xs) (dep + 1) J_MSquareRows_lines (ia (tb_G L xs) (dep + 1) J_MSquareRows_lines (rpI M Q)) := ia_St
  unfold f_MSquareRows_lines at h
  have l0 : im_lk (lv_args 0 [.ref 108, .int p0]) 0 = some (.ref 108) := rfl
  have l1 : im_lk (lv_args 0 [.ref 108, .int p0]) 1 = some (.int p0) := rfl
  refine iq_iconst hS 1 J_MSquareRows_lines_d0 (v := 0) (by decide +kernel) rfl ?_
  refine iq_istore_n hS 2 J_MSquareRows_lines_d1 (by decide) rfl ?_
  refine iq_iconst hS 3 J_MSquareRows_lines_d2 (v := 0) (by decide +kernel) rfl ?_
  refine iq_istore_n hS 4 J_MSquareRows_lines_d3 (by decide) rfl ?_
  obtain ⟨Q1, hQ1, h⟩ := bd1_ed h
  have K1 : ∀ (y2 : Int32) (L' : List (Nat × Value)), im_lk L' 2 = some (.int y2) → Q1 y2 → ia (tb_G L xs) (dep + 1) J_MSquareRows_lines (rpI M Q) (152, L', [], M) := by
    intro y2 L' l3 h
    replace h := hQ1 _ h
    refine iq_iload_n hS 153 J_MSquareRows_lines_d152 l3 rfl ?_
    exact iq_iret J_MSquareRows_lines_d153 rfl rfl ⟨_, rfl, rfl, ed_some h⟩
  obtain ⟨r1, hr1, hq1⟩ := h
  obtain ⟨n1, hn1⟩ := lp_n hr1
  have I1 : ∀ (n : Nat) (x4 : Int32) (x5 : Int32) (L' : List (Nat × Value)), im_lk L' 0 = some (.ref 108) → im_lk L' 1 = some (.int p0) → im_lk L' 2 = some (.int x4) → im_lk L' 3 = some (.int x5) → lpn (uc2 (f_MSquareRows_lines_L4 p0 M)) n (x4, x5) = some r1 → ia (tb_G L xs) (dep + 1) J_MSquareRows_lines (rpI M Q) (4, L', [], M) := by
    intro n
    induction n with
    | zero => intro x4 x5 L' l6 l7 l8 l9 hn; exact (lpn_0 hn).elim
    | succ n ih =>
      intro x4 x5 L' l6 l7 l8 l9 hn
      have h := lpn_ed2 hn
      unfold f_MSquareRows_lines_L4 at h
      refine iq_iload_n hS 5 J_MSquareRows_lines_d4 l9 rfl ?_
      refine iq_aload_n hS 6 J_MSquareRows_lines_d5 l6 rfl ?_
      refine iq_getI hS 9 J_MSquareRows_lines_d6 lf_16_163 (Or.inl rfl) (ka_108 hM) rfl ?_
      refine iq_icmp_ge hS 12 J_MSquareRows_lines_d9 (t := 152) rfl (fun q9 => ?_) rfl (fun q9 => ?_)
      · replace h := ed_pos q9 h
        exact K1 _ _ l8 (lq_r h hq1)
      · replace h := ed_neg q9 h
        refine iq_iconst hS 13 J_MSquareRows_lines_d12 (v := 0) (by decide +kernel) rfl ?_
        refine iq_istore hS 15 J_MSquareRows_lines_d13 (by decide) rfl ?_
        refine iq_iconst hS 16 J_MSquareRows_lines_d15 (v := 0) (by decide +kernel) rfl ?_
        refine iq_istore hS 18 J_MSquareRows_lines_d16 (by decide) rfl ?_
        refine iq_iconst hS 19 J_MSquareRows_lines_d18 (v := 0) (by decide +kernel) rfl ?_
        refine iq_istore hS 21 J_MSquareRows_lines_d19 (by decide) rfl ?_
        obtain ⟨Q10, hQ10, h⟩ := bd1_ed h
        have K10 : ∀ (y11 : Int32) (L' : List (Nat × Value)), im_lk L' 0 = some (.ref 108) → im_lk L' 1 = some (.int p0) → im_lk L' 2 = some (.int y11) → im_lk L' 3 = some (.int x5) → Q10 y11 → ia (tb_G L xs) (dep + 1) J_MSquareRows_lines (rpI M Q) (146, L', [], M) := by
          intro y11 L' l12 l13 l14 l15 h
          replace h := hQ10 _ h
          refine iq_iincv hS 149 J_MSquareRows_lines_d146 (c := 1) (by decide +kernel) l15 (by decide) rfl ?_
          refine iq_goto hS J_MSquareRows_lines_d149 (t := 4) rfl ?_
          exact ih _ _ _ (lk_1r l12 (by decide)) (lk_1i l13 (by decide)) (lk_1i l14 (by decide)) lk_1s (lq_l h)
        obtain ⟨r10, hr10, hq10⟩ := h
        obtain ⟨n10, hn10⟩ := lp_n hr10
        have I10 : ∀ (n : Nat) (x16 : Int32) (x17 : Int32) (x18 : Int32) (x19 : Int32) (L' : List (Nat × Value)), im_lk L' 0 = some (.ref 108) → im_lk L' 1 = some (.int p0) → im_lk L' 2 = some (.int x16) → im_lk L' 3 = some (.int x5) → im_lk L' 4 = some (.int x17) → im_lk L' 5 = some (.int x18) → im_lk L' 6 = some (.int x19) → lpn (uc4 (f_MSquareRows_lines_L21 p0 x5 M)) n (x16, x17, x18, x19) = some r10 → ia (tb_G L xs) (dep + 1) J_MSquareRows_lines (rpI M Q) (21, L', [], M) := by
          intro n
          induction n with
          | zero => intro x16 x17 x18 x19 L' l20 l21 l22 l23 l24 l25 l26 hn; exact (lpn_0 hn).elim
          | succ n ih =>
            intro x16 x17 x18 x19 L' l20 l21 l22 l23 l24 l25 l26 hn
            have h := lpn_ed4 hn
            unfold f_MSquareRows_lines_L21 at h
            refine iq_iload hS 23 J_MSquareRows_lines_d21 l26 rfl ?_
            refine iq_aload_n hS 24 J_MSquareRows_lines_d23 l20 rfl ?_
            refine iq_getI hS 27 J_MSquareRows_lines_d24 lf_16_163 (Or.inl rfl) (ka_108 hM) rfl ?_
            refine iq_icmp_ge hS 30 J_MSquareRows_lines_d27 (t := 146) rfl (fun q27 => ?_) rfl (fun q27 => ?_)
            · replace h := ed_pos q27 h
              exact K10 _ _ l20 l21 l22 l23 (lq_r h hq10)
            · replace h := ed_neg q27 h
              refine iq_aload_n hS 31 J_MSquareRows_lines_d30 l20 rfl ?_
              refine iq_iload hS 33 J_MSquareRows_lines_d31 l26 rfl ?_
              refine iq_iload_n hS 34 J_MSquareRows_lines_d33 l23 rfl ?_
              refine iq_iload_n hS 35 J_MSquareRows_lines_d34 l21 rfl ?_
              obtain ⟨Q27, hQ27, h⟩ := bd1_ed h
              refine iq_cpI hS 38 J_MSquareRows_lines_d35 rfl (pr_inst (vs := [_, _, _]) lc_16_206 lT_432 rfl rfl (by decide) (by decide) rfl (Nat.le_of_ble_eq_true rfl) (Nat.le_of_ble_eq_true rfl) (fun _ => Or.inl (pr_b (ka_108 hM) (by decide) rfl))) (f_MSquareRows_module_ok (dep := dep + 0) hM h) rfl ?_
              intro x27 h
              replace h := hQ27 _ h
              refine iq_istore hS 40 J_MSquareRows_lines_d38 (by decide) rfl ?_
              refine iq_iload hS 42 J_MSquareRows_lines_d40 (lk_1i l26 (by decide)) rfl ?_
              obtain ⟨Q28, hQ28, h⟩ := bd1_ed h
              have J28 : ∀ (y38 : Int32) (L' : List (Nat × Value)), im_lk L' 0 = some (.ref 108) → im_lk L' 1 = some (.int p0) → im_lk L' 2 = some (.int x16) → im_lk L' 3 = some (.int x5) → im_lk L' 5 = some (.int x18) → im_lk L' 6 = some (.int x19) → im_lk L' 7 = some (.int x27) → Q28 y38 → ia (tb_G L xs) (dep + 1) J_MSquareRows_lines (rpI M Q) (68, L', [.int y38], M) := by
                intro y38 L' l39 l40 l41 l42 l43 l44 l45 h
                replace h := hQ28 _ h
                refine iq_istore hS 70 J_MSquareRows_lines_d68 (by decide) rfl ?_
                refine iq_iload hS 72 J_MSquareRows_lines_d70 lk_1s rfl ?_
                refine iq_iconst hS 73 J_MSquareRows_lines_d72 (v := 5) (by decide +kernel) rfl ?_
                have J46 : ∀ (z47 : Int32) (L' : List (Nat × Value)), z47 = ((if ¬ y38 = 5 then (if y38 ≤ 5 then x16 else (x16 + 1)) else (x16 + 3)) : Int32) → im_lk L' 0 = some (.ref 108) → im_lk L' 1 = some (.int p0) → im_lk L' 3 = some (.int x5) → im_lk L' 4 = some (.int y38) → im_lk L' 5 = some (.int x18) → im_lk L' 6 = some (.int x19) → im_lk L' 7 = some (.int x27) → ia (tb_G L xs) (dep + 1) J_MSquareRows_lines (rpI M Q) (95, L', [.int z47], M) := by
                  intro z47 L' e48 l49 l50 l51 l52 l53 l54 l55
                  subst e48
                  refine iq_istore_n hS 96 J_MSquareRows_lines_d95 (by decide) rfl ?_
                  refine iq_iload hS 98 J_MSquareRows_lines_d96 (lk_1i l53 (by decide)) rfl ?_
                  refine iq_iconst hS 99 J_MSquareRows_lines_d98 (v := 1) (by decide +kernel) rfl ?_
                  refine iq_ishl hS 100 J_MSquareRows_lines_d99 rfl ?_
                  refine iq_iload hS 102 J_MSquareRows_lines_d100 (lk_1i l55 (by decide)) rfl ?_
                  refine iq_ior hS 103 J_MSquareRows_lines_d102 rfl ?_
                  refine iq_sipush hS 106 J_MSquareRows_lines_d103 (v := 2047) (by decide +kernel) rfl ?_
                  refine iq_iand hS 107 J_MSquareRows_lines_d106 rfl ?_
                  refine iq_istore hS 109 J_MSquareRows_lines_d107 (by decide) rfl ?_
                  refine iq_iload hS 111 J_MSquareRows_lines_d109 (lk_1i (lk_1i l54 (by decide)) (by decide)) rfl ?_
                  refine iq_bipush hS 113 J_MSquareRows_lines_d111 (v := 10) (by decide +kernel) rfl ?_
                  have J56 : ∀ (z57 : Int32) (L' : List (Nat × Value)), z57 = ((if x19 < 10 then ((if ¬ y38 = 5 then (if y38 ≤ 5 then x16 else (x16 + 1)) else (x16 + 3)) : Int32) else (if (((x18 <<< (1 &&& 31 : Int32) : Int32) ||| x27) &&& 2047) = 1488 then (((if ¬ y38 = 5 then (if y38 ≤ 5 then x16 else (x16 + 1)) else (x16 + 3)) : Int32) + 40) else (if ¬ (((x18 <<< (1 &&& 31 : Int32) : Int32) ||| x27) &&& 2047) = 93 then ((if ¬ y38 = 5 then (if y38 ≤ 5 then x16 else (x16 + 1)) else (x16 + 3)) : Int32) else (((if ¬ y38 = 5 then (if y38 ≤ 5 then x16 else (x16 + 1)) else (x16 + 3)) : Int32) + 40)))) : Int32) → im_lk L' 0 = some (.ref 108) → im_lk L' 1 = some (.int p0) → im_lk L' 3 = some (.int x5) → im_lk L' 4 = some (.int y38) → im_lk L' 5 = some (.int (((x18 <<< (1 &&& 31 : Int32) : Int32) ||| x27) &&& 2047)) → im_lk L' 6 = some (.int x19) → ia (tb_G L xs) (dep + 1) J_MSquareRows_lines (rpI M Q) (139, L', [.int z57], M) := by
                    intro z57 L' e58 l59 l60 l61 l62 l63 l64
                    subst e58
                    refine iq_istore_n hS 140 J_MSquareRows_lines_d139 (by decide) rfl ?_
                    refine iq_iincv hS 143 J_MSquareRows_lines_d140 (c := 1) (by decide +kernel) (lk_1i l64 (by decide)) (by decide) rfl ?_
                    refine iq_goto hS J_MSquareRows_lines_d143 (t := 21) rfl ?_
                    exact ih _ _ _ _ _ (lk_1r (lk_1r l59 (by decide)) (by decide)) (lk_1i (lk_1i l60 (by decide)) (by decide)) (lk_1i lk_1s (by decide)) (lk_1i (lk_1i l61 (by decide)) (by decide)) (lk_1i (lk_1i l62 (by decide)) (by decide)) (lk_1i (lk_1i l63 (by decide)) (by decide)) lk_1s (lq_l h)
                  refine iq_icmp_lt hS 116 J_MSquareRows_lines_d113 (t := 138) rfl (fun q113 => ?_) rfl (fun q113 => ?_)
                  · refine iq_iload_n hS 139 J_MSquareRows_lines_d138 (lk_1i lk_1s (by decide)) rfl ?_
                    exact J56 _ _ (by simp only [if_pos q113]) (lk_1r (lk_1r l49 (by decide)) (by decide)) (lk_1i (lk_1i l50 (by decide)) (by decide)) (lk_1i (lk_1i l51 (by decide)) (by decide)) (lk_1i (lk_1i l52 (by decide)) (by decide)) lk_1s (lk_1i (lk_1i l54 (by decide)) (by decide))
                  · refine iq_iload hS 118 J_MSquareRows_lines_d116 lk_1s rfl ?_
                    refine iq_sipush hS 121 J_MSquareRows_lines_d118 (v := 1488) (by decide +kernel) rfl ?_
                    refine iq_icmp_eq hS 124 J_MSquareRows_lines_d121 (t := 131) rfl (fun q121 => ?_) rfl (fun q121 => ?_)
                    · refine iq_iload_n hS 132 J_MSquareRows_lines_d131 (lk_1i lk_1s (by decide)) rfl ?_
                      refine iq_bipush hS 134 J_MSquareRows_lines_d132 (v := 40) (by decide +kernel) rfl ?_
                      refine iq_iadd hS 135 J_MSquareRows_lines_d134 rfl ?_
                      refine iq_goto hS J_MSquareRows_lines_d135 (t := 139) rfl ?_
                      exact J56 _ _ (by simp only [if_neg q113, if_pos q121]) (lk_1r (lk_1r l49 (by decide)) (by decide)) (lk_1i (lk_1i l50 (by decide)) (by decide)) (lk_1i (lk_1i l51 (by decide)) (by decide)) (lk_1i (lk_1i l52 (by decide)) (by decide)) lk_1s (lk_1i (lk_1i l54 (by decide)) (by decide))
                    · refine iq_iload hS 126 J_MSquareRows_lines_d124 lk_1s rfl ?_
                      refine iq_bipush hS 128 J_MSquareRows_lines_d126 (v := 93) (by decide +kernel) rfl ?_
                      refine iq_icmp_ne hS 131 J_MSquareRows_lines_d128 (t := 138) rfl (fun q128 => ?_) rfl (fun q128 => ?_)
                      · refine iq_iload_n hS 139 J_MSquareRows_lines_d138 (lk_1i lk_1s (by decide)) rfl ?_
                        exact J56 _ _ (by simp only [if_neg q113, if_neg q121, if_pos q128]) (lk_1r (lk_1r l49 (by decide)) (by decide)) (lk_1i (lk_1i l50 (by decide)) (by decide)) (lk_1i (lk_1i l51 (by decide)) (by decide)) (lk_1i (lk_1i l52 (by decide)) (by decide)) lk_1s (lk_1i (lk_1i l54 (by decide)) (by decide))
                      · refine iq_iload_n hS 132 J_MSquareRows_lines_d131 (lk_1i lk_1s (by decide)) rfl ?_
                        refine iq_bipush hS 134 J_MSquareRows_lines_d132 (v := 40) (by decide +kernel) rfl ?_
                        refine iq_iadd hS 135 J_MSquareRows_lines_d134 rfl ?_
                        refine iq_goto hS J_MSquareRows_lines_d135 (t := 139) rfl ?_
                        exact J56 _ _ (by simp only [if_neg q113, if_neg q121, if_neg q128]) (lk_1r (lk_1r l49 (by decide)) (by decide)) (lk_1i (lk_1i l50 (by decide)) (by decide)) (lk_1i (lk_1i l51 (by decide)) (by decide)) (lk_1i (lk_1i l52 (by decide)) (by decide)) lk_1s (lk_1i (lk_1i l54 (by decide)) (by decide))
                refine iq_icmp_ne hS 76 J_MSquareRows_lines_d73 (t := 82) rfl (fun q73 => ?_) rfl (fun q73 => ?_)
                · refine iq_iload hS 84 J_MSquareRows_lines_d82 lk_1s rfl ?_
                  refine iq_iconst hS 85 J_MSquareRows_lines_d84 (v := 5) (by decide +kernel) rfl ?_
                  refine iq_icmp_le hS 88 J_MSquareRows_lines_d85 (t := 94) rfl (fun q85 => ?_) rfl (fun q85 => ?_)
                  · refine iq_iload_n hS 95 J_MSquareRows_lines_d94 (lk_1i l41 (by decide)) rfl ?_
                    exact J46 _ _ (by simp only [if_pos q73, if_pos q85]) (lk_1r l39 (by decide)) (lk_1i l40 (by decide)) (lk_1i l42 (by decide)) lk_1s (lk_1i l43 (by decide)) (lk_1i l44 (by decide)) (lk_1i l45 (by decide))
                  · refine iq_iload_n hS 89 J_MSquareRows_lines_d88 (lk_1i l41 (by decide)) rfl ?_
                    refine iq_iconst hS 90 J_MSquareRows_lines_d89 (v := 1) (by decide +kernel) rfl ?_
                    refine iq_iadd hS 91 J_MSquareRows_lines_d90 rfl ?_
                    refine iq_goto hS J_MSquareRows_lines_d91 (t := 95) rfl ?_
                    exact J46 _ _ (by simp only [if_pos q73, if_neg q85]) (lk_1r l39 (by decide)) (lk_1i l40 (by decide)) (lk_1i l42 (by decide)) lk_1s (lk_1i l43 (by decide)) (lk_1i l44 (by decide)) (lk_1i l45 (by decide))
                · refine iq_iload_n hS 77 J_MSquareRows_lines_d76 (lk_1i l41 (by decide)) rfl ?_
                  refine iq_iconst hS 78 J_MSquareRows_lines_d77 (v := 3) (by decide +kernel) rfl ?_
                  refine iq_iadd hS 79 J_MSquareRows_lines_d78 rfl ?_
                  refine iq_goto hS J_MSquareRows_lines_d79 (t := 95) rfl ?_
                  exact J46 _ _ (by simp only [if_neg q73]) (lk_1r l39 (by decide)) (lk_1i l40 (by decide)) (lk_1i l42 (by decide)) lk_1s (lk_1i l43 (by decide)) (lk_1i l44 (by decide)) (lk_1i l45 (by decide))
              obtain ⟨k29, Q29, hQ29, hk29, h⟩ := jn0_ed h
              have J29 : ∀  (L' : List (Nat × Value)), im_lk L' 0 = some (.ref 108) → im_lk L' 1 = some (.int p0) → im_lk L' 2 = some (.int x16) → im_lk L' 3 = some (.int x5) → im_lk L' 5 = some (.int x18) → im_lk L' 6 = some (.int x19) → im_lk L' 7 = some (.int x27) → Q29 () → ia (tb_G L xs) (dep + 1) J_MSquareRows_lines (rpI M Q) (67, L', [], M) := by
                intro  L' l31 l32 l33 l34 l35 l36 l37 h
                replace h := hQ29  h
                refine iq_iconst hS 68 J_MSquareRows_lines_d67 (v := 1) (by decide +kernel) rfl ?_
                exact J28 _ _ l31 l32 l33 l34 l35 l36 l37 (ed_some h)
              refine iq_if_le hS 45 J_MSquareRows_lines_d42 (t := 67) rfl (fun q42 => ?_) rfl (fun q42 => ?_)
              · replace h := ed_pos q42 h
                exact J29  _ (lk_1r l20 (by decide)) (lk_1i l21 (by decide)) (lk_1i l22 (by decide)) (lk_1i l23 (by decide)) (lk_1i l25 (by decide)) (lk_1i l26 (by decide)) lk_1s (hk29  h)
              · replace h := ed_neg q42 h
                refine iq_aload_n hS 46 J_MSquareRows_lines_d45 (lk_1r l20 (by decide)) rfl ?_
                refine iq_iload hS 48 J_MSquareRows_lines_d46 (lk_1i l26 (by decide)) rfl ?_
                refine iq_iconst hS 49 J_MSquareRows_lines_d48 (v := 1) (by decide +kernel) rfl ?_
                refine iq_isub hS 50 J_MSquareRows_lines_d49 rfl ?_
                refine iq_iload_n hS 51 J_MSquareRows_lines_d50 (lk_1i l23 (by decide)) rfl ?_
                refine iq_iload_n hS 52 J_MSquareRows_lines_d51 (lk_1i l21 (by decide)) rfl ?_
                obtain ⟨Q30, hQ30, h⟩ := bd1_ed h
                refine iq_cpI hS 55 J_MSquareRows_lines_d52 rfl (pr_inst (vs := [_, _, _]) lc_16_206 lT_432 rfl rfl (by decide) (by decide) rfl (Nat.le_of_ble_eq_true rfl) (Nat.le_of_ble_eq_true rfl) (fun _ => Or.inl (pr_b (ka_108 hM) (by decide) rfl))) (f_MSquareRows_module_ok (dep := dep + 0) hM h) rfl ?_
                intro x30 h
                replace h := hQ30 _ h
                refine iq_iload hS 57 J_MSquareRows_lines_d55 lk_1s rfl ?_
                refine iq_icmp_ne hS 60 J_MSquareRows_lines_d57 (t := 67) rfl (fun q57 => ?_) rfl (fun q57 => ?_)
                · replace h := ed_pos q57 h
                  exact J29  _ (lk_1r l20 (by decide)) (lk_1i l21 (by decide)) (lk_1i l22 (by decide)) (lk_1i l23 (by decide)) (lk_1i l25 (by decide)) (lk_1i l26 (by decide)) lk_1s (hk29  h)
                · replace h := ed_neg q57 h
                  refine iq_iload hS 62 J_MSquareRows_lines_d60 (lk_1i l24 (by decide)) rfl ?_
                  refine iq_iconst hS 63 J_MSquareRows_lines_d62 (v := 1) (by decide +kernel) rfl ?_
                  refine iq_iadd hS 64 J_MSquareRows_lines_d63 rfl ?_
                  refine iq_goto hS J_MSquareRows_lines_d64 (t := 68) rfl ?_
                  exact J28 _ _ (lk_1r l20 (by decide)) (lk_1i l21 (by decide)) (lk_1i l22 (by decide)) (lk_1i l23 (by decide)) (lk_1i l25 (by decide)) (lk_1i l26 (by decide)) lk_1s (ed_some h)
        exact I10 n10 _ _ _ _ _ (lk_1r (lk_1r (lk_1r l6 (by decide)) (by decide)) (by decide)) (lk_1i (lk_1i (lk_1i l7 (by decide)) (by decide)) (by decide)) (lk_1i (lk_1i (lk_1i l8 (by decide)) (by decide)) (by decide)) (lk_1i (lk_1i (lk_1i l9 (by decide)) (by decide)) (by decide)) (lk_1i (lk_1i lk_1s (by decide)) (by decide)) (lk_1i lk_1s (by decide)) lk_1s hn10
  exact I1 n1 _ _ _ (lk_1r (lk_1r l0 (by decide)) (by decide)) (lk_1i (lk_1i l1 (by decide)) (by decide)) (lk_1i lk_1s (by decide)) lk_1s hn1
noncomputable def f_MSquareRows_penalty_L27 (v9 : Int32) (M13 : im_M) (x10 : Int32) (x11 : Int32) (x12 : Int32) : Option ((Int32 × Int32 × Int32) ⊕ (Int32 × Int32)) := if (im_i M13 108 8) ≤ x12 then some (.inr (x10, x11)) else bd1 (f_MSquareRows_module x12 v9 0 M13) fun (x14 : Int32) => bd1 (if x12 ≤ 0 then some x10 else if v9 ≤ 0 then some x10 else bd1 (f_MSquareRows_module x12 v9 0 M13) fun (x16 : Int32) => bd1 (f_MSquareRows_module (x12 - 1) v9 0 M13) fun (x17 : Int32) => bd1 (f_MSquareRows_module x12 (v9 - 1) 0 M13) fun (x18 : Int32) => bd1 (f_MSquareRows_module (x12 - 1) (v9 - 1) 0 M13) fun (x19 : Int32) => some ((if (((x16 + x17) + x18) + x19) = 0 then (x10 + 3) else (if ¬ (((x16 + x17) + x18) + x19) = 4 then x10 else (x10 + 3))) : Int32)) fun (y21 : Int32) => some (.inl (y21, (x11 + x14), (x12 + 1)))
noncomputable def f_MSquareRows_penalty_L16 (M7 : im_M) (x4 : Int32) (x5 : Int32) (x6 : Int32) : Option ((Int32 × Int32 × Int32) ⊕ (Int32 × Int32)) := if (im_i M7 108 8) ≤ x6 then some (.inr (x4, x5)) else bd2 (lp (uc3 (f_MSquareRows_penalty_L27 x6 M7)) (x4, x5, 0)) fun (y27 : Int32) (y28 : Int32) => some (.inl (y27, y28, (x6 + 1)))
noncomputable def f_MSquareRows_penalty (M : im_M) : Option (Int32) := bd1 (f_MSquareRows_lines 0 M) fun (x1 : Int32) => bd1 (f_MSquareRows_lines 1 M) fun (x2 : Int32) => bd2 (lp (uc3 (f_MSquareRows_penalty_L16 M)) ((x1 + x2), 0, 0)) fun (y29 : Int32) (y30 : Int32) => gd (¬ ((im_i M 108 8) * (im_i M 108 8)) = (0 : Int32)) <| some (y29 + ((10 : Int32) * (((if 0 ≤ (((20 : Int32) * y30) - ((10 : Int32) * ((im_i M 108 8) * (im_i M 108 8)))) then (((20 : Int32) * y30) - ((10 : Int32) * ((im_i M 108 8) * (im_i M 108 8)))) else (-(((20 : Int32) * y30) - ((10 : Int32) * ((im_i M 108 8) * (im_i M 108 8)))))) : Int32) / ((im_i M 108 8) * (im_i M 108 8)))))
theorem J_MSquareRows_penalty_d0 : decode J_MSquareRows_penalty.2.1 0 = .ok (.aload_n 0, 1) := by decide +kernel
theorem J_MSquareRows_penalty_d1 : decode J_MSquareRows_penalty.2.1 1 = .ok (.iconst 0, 1) := by decide +kernel
theorem J_MSquareRows_penalty_d2 : decode J_MSquareRows_penalty.2.1 2 = .ok (.invokevirtual 210, 3) := by decide +kernel
theorem J_MSquareRows_penalty_d5 : decode J_MSquareRows_penalty.2.1 5 = .ok (.aload_n 0, 1) := by decide +kernel
theorem J_MSquareRows_penalty_d6 : decode J_MSquareRows_penalty.2.1 6 = .ok (.iconst 1, 1) := by decide +kernel
theorem J_MSquareRows_penalty_d7 : decode J_MSquareRows_penalty.2.1 7 = .ok (.invokevirtual 210, 3) := by decide +kernel
theorem J_MSquareRows_penalty_d10 : decode J_MSquareRows_penalty.2.1 10 = .ok (.iadd, 1) := by decide +kernel
theorem J_MSquareRows_penalty_d11 : decode J_MSquareRows_penalty.2.1 11 = .ok (.istore_n 1, 1) := by decide +kernel
theorem J_MSquareRows_penalty_d12 : decode J_MSquareRows_penalty.2.1 12 = .ok (.iconst 0, 1) := by decide +kernel
theorem J_MSquareRows_penalty_d13 : decode J_MSquareRows_penalty.2.1 13 = .ok (.istore_n 2, 1) := by decide +kernel
theorem J_MSquareRows_penalty_d14 : decode J_MSquareRows_penalty.2.1 14 = .ok (.iconst 0, 1) := by decide +kernel
theorem J_MSquareRows_penalty_d15 : decode J_MSquareRows_penalty.2.1 15 = .ok (.istore_n 3, 1) := by decide +kernel
theorem J_MSquareRows_penalty_d16 : decode J_MSquareRows_penalty.2.1 16 = .ok (.iload_n 3, 1) := by decide +kernel
theorem J_MSquareRows_penalty_d17 : decode J_MSquareRows_penalty.2.1 17 = .ok (.aload_n 0, 1) := by decide +kernel
theorem J_MSquareRows_penalty_d18 : decode J_MSquareRows_penalty.2.1 18 = .ok (.getfield 163, 3) := by decide +kernel
theorem J_MSquareRows_penalty_d21 : decode J_MSquareRows_penalty.2.1 21 = .ok (.if_icmp .ge 111, 3) := by decide +kernel
theorem J_MSquareRows_penalty_d24 : decode J_MSquareRows_penalty.2.1 24 = .ok (.iconst 0, 1) := by decide +kernel
theorem J_MSquareRows_penalty_d25 : decode J_MSquareRows_penalty.2.1 25 = .ok (.istore 4, 2) := by decide +kernel
theorem J_MSquareRows_penalty_d27 : decode J_MSquareRows_penalty.2.1 27 = .ok (.iload 4, 2) := by decide +kernel
theorem J_MSquareRows_penalty_d29 : decode J_MSquareRows_penalty.2.1 29 = .ok (.aload_n 0, 1) := by decide +kernel
theorem J_MSquareRows_penalty_d30 : decode J_MSquareRows_penalty.2.1 30 = .ok (.getfield 163, 3) := by decide +kernel
theorem J_MSquareRows_penalty_d33 : decode J_MSquareRows_penalty.2.1 33 = .ok (.if_icmp .ge 93, 3) := by decide +kernel
theorem J_MSquareRows_penalty_d36 : decode J_MSquareRows_penalty.2.1 36 = .ok (.iload_n 2, 1) := by decide +kernel
theorem J_MSquareRows_penalty_d37 : decode J_MSquareRows_penalty.2.1 37 = .ok (.aload_n 0, 1) := by decide +kernel
theorem J_MSquareRows_penalty_d38 : decode J_MSquareRows_penalty.2.1 38 = .ok (.iload 4, 2) := by decide +kernel
theorem J_MSquareRows_penalty_d40 : decode J_MSquareRows_penalty.2.1 40 = .ok (.iload_n 3, 1) := by decide +kernel
theorem J_MSquareRows_penalty_d41 : decode J_MSquareRows_penalty.2.1 41 = .ok (.iconst 0, 1) := by decide +kernel
theorem J_MSquareRows_penalty_d42 : decode J_MSquareRows_penalty.2.1 42 = .ok (.invokevirtual 206, 3) := by decide +kernel
theorem J_MSquareRows_penalty_d45 : decode J_MSquareRows_penalty.2.1 45 = .ok (.iadd, 1) := by decide +kernel
theorem J_MSquareRows_penalty_d46 : decode J_MSquareRows_penalty.2.1 46 = .ok (.istore_n 2, 1) := by decide +kernel
theorem J_MSquareRows_penalty_d47 : decode J_MSquareRows_penalty.2.1 47 = .ok (.iload 4, 2) := by decide +kernel
theorem J_MSquareRows_penalty_d49 : decode J_MSquareRows_penalty.2.1 49 = .ok (.ifCond .le 71, 3) := by decide +kernel
theorem J_MSquareRows_penalty_d52 : decode J_MSquareRows_penalty.2.1 52 = .ok (.iload_n 3, 1) := by decide +kernel
theorem J_MSquareRows_penalty_d53 : decode J_MSquareRows_penalty.2.1 53 = .ok (.ifCond .le 67, 3) := by decide +kernel
theorem J_MSquareRows_penalty_d56 : decode J_MSquareRows_penalty.2.1 56 = .ok (.aload_n 0, 1) := by decide +kernel
theorem J_MSquareRows_penalty_d57 : decode J_MSquareRows_penalty.2.1 57 = .ok (.iload 4, 2) := by decide +kernel
theorem J_MSquareRows_penalty_d59 : decode J_MSquareRows_penalty.2.1 59 = .ok (.iload_n 3, 1) := by decide +kernel
theorem J_MSquareRows_penalty_d60 : decode J_MSquareRows_penalty.2.1 60 = .ok (.iconst 0, 1) := by decide +kernel
theorem J_MSquareRows_penalty_d61 : decode J_MSquareRows_penalty.2.1 61 = .ok (.invokevirtual 206, 3) := by decide +kernel
theorem J_MSquareRows_penalty_d64 : decode J_MSquareRows_penalty.2.1 64 = .ok (.aload_n 0, 1) := by decide +kernel
theorem J_MSquareRows_penalty_d65 : decode J_MSquareRows_penalty.2.1 65 = .ok (.iload 4, 2) := by decide +kernel
theorem J_MSquareRows_penalty_d67 : decode J_MSquareRows_penalty.2.1 67 = .ok (.iconst 1, 1) := by decide +kernel
theorem J_MSquareRows_penalty_d68 : decode J_MSquareRows_penalty.2.1 68 = .ok (.isub, 1) := by decide +kernel
theorem J_MSquareRows_penalty_d69 : decode J_MSquareRows_penalty.2.1 69 = .ok (.iload_n 3, 1) := by decide +kernel
theorem J_MSquareRows_penalty_d70 : decode J_MSquareRows_penalty.2.1 70 = .ok (.iconst 0, 1) := by decide +kernel
theorem J_MSquareRows_penalty_d71 : decode J_MSquareRows_penalty.2.1 71 = .ok (.invokevirtual 206, 3) := by decide +kernel
theorem J_MSquareRows_penalty_d74 : decode J_MSquareRows_penalty.2.1 74 = .ok (.iadd, 1) := by decide +kernel
theorem J_MSquareRows_penalty_d75 : decode J_MSquareRows_penalty.2.1 75 = .ok (.aload_n 0, 1) := by decide +kernel
theorem J_MSquareRows_penalty_d76 : decode J_MSquareRows_penalty.2.1 76 = .ok (.iload 4, 2) := by decide +kernel
theorem J_MSquareRows_penalty_d78 : decode J_MSquareRows_penalty.2.1 78 = .ok (.iload_n 3, 1) := by decide +kernel
theorem J_MSquareRows_penalty_d79 : decode J_MSquareRows_penalty.2.1 79 = .ok (.iconst 1, 1) := by decide +kernel
theorem J_MSquareRows_penalty_d80 : decode J_MSquareRows_penalty.2.1 80 = .ok (.isub, 1) := by decide +kernel
theorem J_MSquareRows_penalty_d81 : decode J_MSquareRows_penalty.2.1 81 = .ok (.iconst 0, 1) := by decide +kernel
theorem J_MSquareRows_penalty_d82 : decode J_MSquareRows_penalty.2.1 82 = .ok (.invokevirtual 206, 3) := by decide +kernel
theorem J_MSquareRows_penalty_d85 : decode J_MSquareRows_penalty.2.1 85 = .ok (.iadd, 1) := by decide +kernel
theorem J_MSquareRows_penalty_d86 : decode J_MSquareRows_penalty.2.1 86 = .ok (.aload_n 0, 1) := by decide +kernel
theorem J_MSquareRows_penalty_d87 : decode J_MSquareRows_penalty.2.1 87 = .ok (.iload 4, 2) := by decide +kernel
theorem J_MSquareRows_penalty_d89 : decode J_MSquareRows_penalty.2.1 89 = .ok (.iconst 1, 1) := by decide +kernel
theorem J_MSquareRows_penalty_d90 : decode J_MSquareRows_penalty.2.1 90 = .ok (.isub, 1) := by decide +kernel
theorem J_MSquareRows_penalty_d91 : decode J_MSquareRows_penalty.2.1 91 = .ok (.iload_n 3, 1) := by decide +kernel
theorem J_MSquareRows_penalty_d92 : decode J_MSquareRows_penalty.2.1 92 = .ok (.iconst 1, 1) := by decide +kernel
theorem J_MSquareRows_penalty_d93 : decode J_MSquareRows_penalty.2.1 93 = .ok (.isub, 1) := by decide +kernel
theorem J_MSquareRows_penalty_d94 : decode J_MSquareRows_penalty.2.1 94 = .ok (.iconst 0, 1) := by decide +kernel
theorem J_MSquareRows_penalty_d95 : decode J_MSquareRows_penalty.2.1 95 = .ok (.invokevirtual 206, 3) := by decide +kernel
theorem J_MSquareRows_penalty_d98 : decode J_MSquareRows_penalty.2.1 98 = .ok (.iadd, 1) := by decide +kernel
theorem J_MSquareRows_penalty_d99 : decode J_MSquareRows_penalty.2.1 99 = .ok (.istore 5, 2) := by decide +kernel
theorem J_MSquareRows_penalty_d101 : decode J_MSquareRows_penalty.2.1 101 = .ok (.iload 5, 2) := by decide +kernel
theorem J_MSquareRows_penalty_d103 : decode J_MSquareRows_penalty.2.1 103 = .ok (.ifCond .eq 9, 3) := by decide +kernel
theorem J_MSquareRows_penalty_d106 : decode J_MSquareRows_penalty.2.1 106 = .ok (.iload 5, 2) := by decide +kernel
theorem J_MSquareRows_penalty_d108 : decode J_MSquareRows_penalty.2.1 108 = .ok (.iconst 4, 1) := by decide +kernel
theorem J_MSquareRows_penalty_d109 : decode J_MSquareRows_penalty.2.1 109 = .ok (.if_icmp .ne 9, 3) := by decide +kernel
theorem J_MSquareRows_penalty_d112 : decode J_MSquareRows_penalty.2.1 112 = .ok (.iload_n 1, 1) := by decide +kernel
theorem J_MSquareRows_penalty_d113 : decode J_MSquareRows_penalty.2.1 113 = .ok (.iconst 3, 1) := by decide +kernel
theorem J_MSquareRows_penalty_d114 : decode J_MSquareRows_penalty.2.1 114 = .ok (.iadd, 1) := by decide +kernel
theorem J_MSquareRows_penalty_d115 : decode J_MSquareRows_penalty.2.1 115 = .ok (.goto 4, 3) := by decide +kernel
theorem J_MSquareRows_penalty_d118 : decode J_MSquareRows_penalty.2.1 118 = .ok (.iload_n 1, 1) := by decide +kernel
theorem J_MSquareRows_penalty_d119 : decode J_MSquareRows_penalty.2.1 119 = .ok (.istore_n 1, 1) := by decide +kernel
theorem J_MSquareRows_penalty_d120 : decode J_MSquareRows_penalty.2.1 120 = .ok (.iinc 4 1, 3) := by decide +kernel
theorem J_MSquareRows_penalty_d123 : decode J_MSquareRows_penalty.2.1 123 = .ok (.goto (-96), 3) := by decide +kernel
theorem J_MSquareRows_penalty_d126 : decode J_MSquareRows_penalty.2.1 126 = .ok (.iinc 3 1, 3) := by decide +kernel
theorem J_MSquareRows_penalty_d129 : decode J_MSquareRows_penalty.2.1 129 = .ok (.goto (-113), 3) := by decide +kernel
theorem J_MSquareRows_penalty_d132 : decode J_MSquareRows_penalty.2.1 132 = .ok (.aload_n 0, 1) := by decide +kernel
theorem J_MSquareRows_penalty_d133 : decode J_MSquareRows_penalty.2.1 133 = .ok (.getfield 163, 3) := by decide +kernel
theorem J_MSquareRows_penalty_d136 : decode J_MSquareRows_penalty.2.1 136 = .ok (.aload_n 0, 1) := by decide +kernel
theorem J_MSquareRows_penalty_d137 : decode J_MSquareRows_penalty.2.1 137 = .ok (.getfield 163, 3) := by decide +kernel
theorem J_MSquareRows_penalty_d140 : decode J_MSquareRows_penalty.2.1 140 = .ok (.imul, 1) := by decide +kernel
theorem J_MSquareRows_penalty_d141 : decode J_MSquareRows_penalty.2.1 141 = .ok (.istore_n 3, 1) := by decide +kernel
theorem J_MSquareRows_penalty_d142 : decode J_MSquareRows_penalty.2.1 142 = .ok (.bipush 20, 2) := by decide +kernel
theorem J_MSquareRows_penalty_d144 : decode J_MSquareRows_penalty.2.1 144 = .ok (.iload_n 2, 1) := by decide +kernel
theorem J_MSquareRows_penalty_d145 : decode J_MSquareRows_penalty.2.1 145 = .ok (.imul, 1) := by decide +kernel
theorem J_MSquareRows_penalty_d146 : decode J_MSquareRows_penalty.2.1 146 = .ok (.bipush 10, 2) := by decide +kernel
theorem J_MSquareRows_penalty_d148 : decode J_MSquareRows_penalty.2.1 148 = .ok (.iload_n 3, 1) := by decide +kernel
theorem J_MSquareRows_penalty_d149 : decode J_MSquareRows_penalty.2.1 149 = .ok (.imul, 1) := by decide +kernel
theorem J_MSquareRows_penalty_d150 : decode J_MSquareRows_penalty.2.1 150 = .ok (.isub, 1) := by decide +kernel
theorem J_MSquareRows_penalty_d151 : decode J_MSquareRows_penalty.2.1 151 = .ok (.istore 4, 2) := by decide +kernel
theorem J_MSquareRows_penalty_d153 : decode J_MSquareRows_penalty.2.1 153 = .ok (.iload_n 1, 1) := by decide +kernel
theorem J_MSquareRows_penalty_d154 : decode J_MSquareRows_penalty.2.1 154 = .ok (.bipush 10, 2) := by decide +kernel
theorem J_MSquareRows_penalty_d156 : decode J_MSquareRows_penalty.2.1 156 = .ok (.iload 4, 2) := by decide +kernel
theorem J_MSquareRows_penalty_d158 : decode J_MSquareRows_penalty.2.1 158 = .ok (.ifCond .ge 9, 3) := by decide +kernel
theorem J_MSquareRows_penalty_d161 : decode J_MSquareRows_penalty.2.1 161 = .ok (.iload 4, 2) := by decide +kernel
theorem J_MSquareRows_penalty_d163 : decode J_MSquareRows_penalty.2.1 163 = .ok (.ineg, 1) := by decide +kernel
theorem J_MSquareRows_penalty_d164 : decode J_MSquareRows_penalty.2.1 164 = .ok (.goto 5, 3) := by decide +kernel
theorem J_MSquareRows_penalty_d167 : decode J_MSquareRows_penalty.2.1 167 = .ok (.iload 4, 2) := by decide +kernel
theorem J_MSquareRows_penalty_d169 : decode J_MSquareRows_penalty.2.1 169 = .ok (.iload_n 3, 1) := by decide +kernel
theorem J_MSquareRows_penalty_d170 : decode J_MSquareRows_penalty.2.1 170 = .ok (.idiv, 1) := by decide +kernel
theorem J_MSquareRows_penalty_d171 : decode J_MSquareRows_penalty.2.1 171 = .ok (.imul, 1) := by decide +kernel
theorem J_MSquareRows_penalty_d172 : decode J_MSquareRows_penalty.2.1 172 = .ok (.iadd, 1) := by decide +kernel
theorem J_MSquareRows_penalty_d173 : decode J_MSquareRows_penalty.2.1 173 = .ok (.ireturn, 1) := by decide +kernel
theorem f_MSquareRows_penalty_ok {L : Nat} {xs : Nat → Int32} {dep : Nat} {w : Bool} {M : im_M} {Q : Int32 → Prop} (hM : lw_S w M) (h : ed (f_MSquareRows_penalty M) Q) : ia (tb_G L xs) (dep + 2) J_MSquareRows_penalty (rpI M Q) (0, lv_args 0 [.ref 108], [], M) := by
  have hS : im_St (tb_G L xs) (dep + 2) J_MSquareRows_penalty (ia (tb_G L xs) (dep + 2) J_MSquareRows_penalty (rpI M Q)) := ia_St
  unfold f_MSquareRows_penalty at h
  have l0 : im_lk (lv_args 0 [.ref 108]) 0 = some (.ref 108) := rfl
  refine iq_aload_n hS 1 J_MSquareRows_penalty_d0 l0 rfl ?_
  refine iq_iconst hS 2 J_MSquareRows_penalty_d1 (v := 0) (by decide +kernel) rfl ?_
  obtain ⟨Q1, hQ1, h⟩ := bd1_ed h
  refine iq_cpI hS 5 J_MSquareRows_penalty_d2 rfl (pr_inst (vs := [_]) lc_16_210 lT_431 rfl rfl (by decide) (by decide) rfl (Nat.le_of_ble_eq_true rfl) (Nat.le_of_ble_eq_true rfl) (fun _ => Or.inl (pr_b (ka_108 hM) (by decide) rfl))) (f_MSquareRows_lines_ok (dep := dep + 0) hM h) rfl ?_
  intro x1 h
  replace h := hQ1 _ h
  refine iq_aload_n hS 6 J_MSquareRows_penalty_d5 l0 rfl ?_
  refine iq_iconst hS 7 J_MSquareRows_penalty_d6 (v := 1) (by decide +kernel) rfl ?_
  obtain ⟨Q2, hQ2, h⟩ := bd1_ed h
  refine iq_cpI hS 10 J_MSquareRows_penalty_d7 rfl (pr_inst (vs := [_]) lc_16_210 lT_431 rfl rfl (by decide) (by decide) rfl (Nat.le_of_ble_eq_true rfl) (Nat.le_of_ble_eq_true rfl) (fun _ => Or.inl (pr_b (ka_108 hM) (by decide) rfl))) (f_MSquareRows_lines_ok (dep := dep + 0) hM h) rfl ?_
  intro x2 h
  replace h := hQ2 _ h
  refine iq_iadd hS 11 J_MSquareRows_penalty_d10 rfl ?_
  refine iq_istore_n hS 12 J_MSquareRows_penalty_d11 (by decide) rfl ?_
  refine iq_iconst hS 13 J_MSquareRows_penalty_d12 (v := 0) (by decide +kernel) rfl ?_
  refine iq_istore_n hS 14 J_MSquareRows_penalty_d13 (by decide) rfl ?_
  refine iq_iconst hS 15 J_MSquareRows_penalty_d14 (v := 0) (by decide +kernel) rfl ?_
  refine iq_istore_n hS 16 J_MSquareRows_penalty_d15 (by decide) rfl ?_
  obtain ⟨Q3, hQ3, h⟩ := bd2_ed h
  have K3 : ∀ (y4 : Int32) (y5 : Int32) (L' : List (Nat × Value)), im_lk L' 0 = some (.ref 108) → im_lk L' 1 = some (.int y4) → im_lk L' 2 = some (.int y5) → Q3 (y4, y5) → ia (tb_G L xs) (dep + 2) J_MSquareRows_penalty (rpI M Q) (132, L', [], M) := by
    intro y4 y5 L' l6 l7 l8 h
    replace h := hQ3 _ _ h
    refine iq_aload_n hS 133 J_MSquareRows_penalty_d132 l6 rfl ?_
    refine iq_getI hS 136 J_MSquareRows_penalty_d133 lf_16_163 (Or.inl rfl) (ka_108 hM) rfl ?_
    refine iq_aload_n hS 137 J_MSquareRows_penalty_d136 l6 rfl ?_
    refine iq_getI hS 140 J_MSquareRows_penalty_d137 lf_16_163 (Or.inl rfl) (ka_108 hM) rfl ?_
    refine iq_imul hS 141 J_MSquareRows_penalty_d140 rfl ?_
    refine iq_istore_n hS 142 J_MSquareRows_penalty_d141 (by decide) rfl ?_
    refine iq_bipush hS 144 J_MSquareRows_penalty_d142 (v := 20) (by decide +kernel) rfl ?_
    refine iq_iload_n hS 145 J_MSquareRows_penalty_d144 (lk_1i l8 (by decide)) rfl ?_
    refine iq_imul hS 146 J_MSquareRows_penalty_d145 rfl ?_
    refine iq_bipush hS 148 J_MSquareRows_penalty_d146 (v := 10) (by decide +kernel) rfl ?_
    refine iq_iload_n hS 149 J_MSquareRows_penalty_d148 lk_1s rfl ?_
    refine iq_imul hS 150 J_MSquareRows_penalty_d149 rfl ?_
    refine iq_isub hS 151 J_MSquareRows_penalty_d150 rfl ?_
    refine iq_istore hS 153 J_MSquareRows_penalty_d151 (by decide) rfl ?_
    refine iq_iload_n hS 154 J_MSquareRows_penalty_d153 (lk_1i (lk_1i l7 (by decide)) (by decide)) rfl ?_
    refine iq_bipush hS 156 J_MSquareRows_penalty_d154 (v := 10) (by decide +kernel) rfl ?_
    refine iq_iload hS 158 J_MSquareRows_penalty_d156 lk_1s rfl ?_
    have J9 : ∀ (z10 : Int32) (L' : List (Nat × Value)), z10 = ((if 0 ≤ (((20 : Int32) * y5) - ((10 : Int32) * ((im_i M 108 8) * (im_i M 108 8)))) then (((20 : Int32) * y5) - ((10 : Int32) * ((im_i M 108 8) * (im_i M 108 8)))) else (-(((20 : Int32) * y5) - ((10 : Int32) * ((im_i M 108 8) * (im_i M 108 8)))))) : Int32) → im_lk L' 3 = some (.int ((im_i M 108 8) * (im_i M 108 8))) → ia (tb_G L xs) (dep + 2) J_MSquareRows_penalty (rpI M Q) (169, L', [.int z10, .int 10, .int y4], M) := by
      intro z10 L' e11 l12
      subst e11
      refine iq_iload_n hS 170 J_MSquareRows_penalty_d169 l12 rfl ?_
      obtain ⟨g170, h⟩ := ed_gd h
      refine iq_idiv hS 171 J_MSquareRows_penalty_d170 g170 rfl ?_
      refine iq_imul hS 172 J_MSquareRows_penalty_d171 rfl ?_
      refine iq_iadd hS 173 J_MSquareRows_penalty_d172 rfl ?_
      exact iq_iret J_MSquareRows_penalty_d173 rfl rfl ⟨_, rfl, rfl, ed_some h⟩
    refine iq_if_ge hS 161 J_MSquareRows_penalty_d158 (t := 167) rfl (fun q158 => ?_) rfl (fun q158 => ?_)
    · refine iq_iload hS 169 J_MSquareRows_penalty_d167 lk_1s rfl ?_
      exact J9 _ _ (by simp only [if_pos q158]) (lk_1i lk_1s (by decide))
    · refine iq_iload hS 163 J_MSquareRows_penalty_d161 lk_1s rfl ?_
      refine iq_ineg hS 164 J_MSquareRows_penalty_d163 rfl ?_
      refine iq_goto hS J_MSquareRows_penalty_d164 (t := 169) rfl ?_
      exact J9 _ _ (by simp only [if_neg q158]) (lk_1i lk_1s (by decide))
  obtain ⟨r3, hr3, hq3⟩ := h
  obtain ⟨n3, hn3⟩ := lp_n hr3
  have I3 : ∀ (n : Nat) (x13 : Int32) (x14 : Int32) (x15 : Int32) (L' : List (Nat × Value)), im_lk L' 0 = some (.ref 108) → im_lk L' 1 = some (.int x13) → im_lk L' 2 = some (.int x14) → im_lk L' 3 = some (.int x15) → lpn (uc3 (f_MSquareRows_penalty_L16 M)) n (x13, x14, x15) = some r3 → ia (tb_G L xs) (dep + 2) J_MSquareRows_penalty (rpI M Q) (16, L', [], M) := by
    intro n
    induction n with
    | zero => intro x13 x14 x15 L' l16 l17 l18 l19 hn; exact (lpn_0 hn).elim
    | succ n ih =>
      intro x13 x14 x15 L' l16 l17 l18 l19 hn
      have h := lpn_ed3 hn
      unfold f_MSquareRows_penalty_L16 at h
      refine iq_iload_n hS 17 J_MSquareRows_penalty_d16 l19 rfl ?_
      refine iq_aload_n hS 18 J_MSquareRows_penalty_d17 l16 rfl ?_
      refine iq_getI hS 21 J_MSquareRows_penalty_d18 lf_16_163 (Or.inl rfl) (ka_108 hM) rfl ?_
      refine iq_icmp_ge hS 24 J_MSquareRows_penalty_d21 (t := 132) rfl (fun q21 => ?_) rfl (fun q21 => ?_)
      · replace h := ed_pos q21 h
        exact K3 _ _ _ l16 l17 l18 (lq_r h hq3)
      · replace h := ed_neg q21 h
        refine iq_iconst hS 25 J_MSquareRows_penalty_d24 (v := 0) (by decide +kernel) rfl ?_
        refine iq_istore hS 27 J_MSquareRows_penalty_d25 (by decide) rfl ?_
        obtain ⟨Q20, hQ20, h⟩ := bd2_ed h
        have K20 : ∀ (y21 : Int32) (y22 : Int32) (L' : List (Nat × Value)), im_lk L' 0 = some (.ref 108) → im_lk L' 1 = some (.int y21) → im_lk L' 2 = some (.int y22) → im_lk L' 3 = some (.int x15) → Q20 (y21, y22) → ia (tb_G L xs) (dep + 2) J_MSquareRows_penalty (rpI M Q) (126, L', [], M) := by
          intro y21 y22 L' l23 l24 l25 l26 h
          replace h := hQ20 _ _ h
          refine iq_iincv hS 129 J_MSquareRows_penalty_d126 (c := 1) (by decide +kernel) l26 (by decide) rfl ?_
          refine iq_goto hS J_MSquareRows_penalty_d129 (t := 16) rfl ?_
          exact ih _ _ _ _ (lk_1r l23 (by decide)) (lk_1i l24 (by decide)) (lk_1i l25 (by decide)) lk_1s (lq_l h)
        obtain ⟨r20, hr20, hq20⟩ := h
        obtain ⟨n20, hn20⟩ := lp_n hr20
        have I20 : ∀ (n : Nat) (x27 : Int32) (x28 : Int32) (x29 : Int32) (L' : List (Nat × Value)), im_lk L' 0 = some (.ref 108) → im_lk L' 1 = some (.int x27) → im_lk L' 2 = some (.int x28) → im_lk L' 3 = some (.int x15) → im_lk L' 4 = some (.int x29) → lpn (uc3 (f_MSquareRows_penalty_L27 x15 M)) n (x27, x28, x29) = some r20 → ia (tb_G L xs) (dep + 2) J_MSquareRows_penalty (rpI M Q) (27, L', [], M) := by
          intro n
          induction n with
          | zero => intro x27 x28 x29 L' l30 l31 l32 l33 l34 hn; exact (lpn_0 hn).elim
          | succ n ih =>
            intro x27 x28 x29 L' l30 l31 l32 l33 l34 hn
            have h := lpn_ed3 hn
            unfold f_MSquareRows_penalty_L27 at h
            refine iq_iload hS 29 J_MSquareRows_penalty_d27 l34 rfl ?_
            refine iq_aload_n hS 30 J_MSquareRows_penalty_d29 l30 rfl ?_
            refine iq_getI hS 33 J_MSquareRows_penalty_d30 lf_16_163 (Or.inl rfl) (ka_108 hM) rfl ?_
            refine iq_icmp_ge hS 36 J_MSquareRows_penalty_d33 (t := 126) rfl (fun q33 => ?_) rfl (fun q33 => ?_)
            · replace h := ed_pos q33 h
              exact K20 _ _ _ l30 l31 l32 l33 (lq_r h hq20)
            · replace h := ed_neg q33 h
              refine iq_iload_n hS 37 J_MSquareRows_penalty_d36 l32 rfl ?_
              refine iq_aload_n hS 38 J_MSquareRows_penalty_d37 l30 rfl ?_
              refine iq_iload hS 40 J_MSquareRows_penalty_d38 l34 rfl ?_
              refine iq_iload_n hS 41 J_MSquareRows_penalty_d40 l33 rfl ?_
              refine iq_iconst hS 42 J_MSquareRows_penalty_d41 (v := 0) (by decide +kernel) rfl ?_
              obtain ⟨Q35, hQ35, h⟩ := bd1_ed h
              refine iq_cpI hS 45 J_MSquareRows_penalty_d42 rfl (pr_inst (vs := [_, _, _]) lc_16_206 lT_432 rfl rfl (by decide) (by decide) rfl (Nat.le_of_ble_eq_true rfl) (Nat.le_of_ble_eq_true rfl) (fun _ => Or.inl (pr_b (ka_108 hM) (by decide) rfl))) (f_MSquareRows_module_ok (dep := dep + 1) hM h) rfl ?_
              intro x35 h
              replace h := hQ35 _ h
              refine iq_iadd hS 46 J_MSquareRows_penalty_d45 rfl ?_
              refine iq_istore_n hS 47 J_MSquareRows_penalty_d46 (by decide) rfl ?_
              refine iq_iload hS 49 J_MSquareRows_penalty_d47 (lk_1i l34 (by decide)) rfl ?_
              obtain ⟨Q36, hQ36, h⟩ := bd1_ed h
              have J36 : ∀ (y48 : Int32) (L' : List (Nat × Value)), im_lk L' 0 = some (.ref 108) → im_lk L' 1 = some (.int y48) → im_lk L' 2 = some (.int (x28 + x35)) → im_lk L' 3 = some (.int x15) → im_lk L' 4 = some (.int x29) → Q36 y48 → ia (tb_G L xs) (dep + 2) J_MSquareRows_penalty (rpI M Q) (120, L', [], M) := by
                intro y48 L' l49 l50 l51 l52 l53 h
                replace h := hQ36 _ h
                refine iq_iincv hS 123 J_MSquareRows_penalty_d120 (c := 1) (by decide +kernel) l53 (by decide) rfl ?_
                refine iq_goto hS J_MSquareRows_penalty_d123 (t := 27) rfl ?_
                exact ih _ _ _ _ (lk_1r l49 (by decide)) (lk_1i l50 (by decide)) (lk_1i l51 (by decide)) (lk_1i l52 (by decide)) lk_1s (lq_l h)
              refine iq_if_le hS 52 J_MSquareRows_penalty_d49 (t := 120) rfl (fun q49 => ?_) rfl (fun q49 => ?_)
              · replace h := ed_pos q49 h
                exact J36 _ _ (lk_1r l30 (by decide)) (lk_1i l31 (by decide)) lk_1s (lk_1i l33 (by decide)) (lk_1i l34 (by decide)) (ed_some h)
              · replace h := ed_neg q49 h
                refine iq_iload_n hS 53 J_MSquareRows_penalty_d52 (lk_1i l33 (by decide)) rfl ?_
                refine iq_if_le hS 56 J_MSquareRows_penalty_d53 (t := 120) rfl (fun q53 => ?_) rfl (fun q53 => ?_)
                · replace h := ed_pos q53 h
                  exact J36 _ _ (lk_1r l30 (by decide)) (lk_1i l31 (by decide)) lk_1s (lk_1i l33 (by decide)) (lk_1i l34 (by decide)) (ed_some h)
                · replace h := ed_neg q53 h
                  refine iq_aload_n hS 57 J_MSquareRows_penalty_d56 (lk_1r l30 (by decide)) rfl ?_
                  refine iq_iload hS 59 J_MSquareRows_penalty_d57 (lk_1i l34 (by decide)) rfl ?_
                  refine iq_iload_n hS 60 J_MSquareRows_penalty_d59 (lk_1i l33 (by decide)) rfl ?_
                  refine iq_iconst hS 61 J_MSquareRows_penalty_d60 (v := 0) (by decide +kernel) rfl ?_
                  obtain ⟨Q37, hQ37, h⟩ := bd1_ed h
                  refine iq_cpI hS 64 J_MSquareRows_penalty_d61 rfl (pr_inst (vs := [_, _, _]) lc_16_206 lT_432 rfl rfl (by decide) (by decide) rfl (Nat.le_of_ble_eq_true rfl) (Nat.le_of_ble_eq_true rfl) (fun _ => Or.inl (pr_b (ka_108 hM) (by decide) rfl))) (f_MSquareRows_module_ok (dep := dep + 1) hM h) rfl ?_
                  intro x37 h
                  replace h := hQ37 _ h
                  refine iq_aload_n hS 65 J_MSquareRows_penalty_d64 (lk_1r l30 (by decide)) rfl ?_
                  refine iq_iload hS 67 J_MSquareRows_penalty_d65 (lk_1i l34 (by decide)) rfl ?_
                  refine iq_iconst hS 68 J_MSquareRows_penalty_d67 (v := 1) (by decide +kernel) rfl ?_
                  refine iq_isub hS 69 J_MSquareRows_penalty_d68 rfl ?_
                  refine iq_iload_n hS 70 J_MSquareRows_penalty_d69 (lk_1i l33 (by decide)) rfl ?_
                  refine iq_iconst hS 71 J_MSquareRows_penalty_d70 (v := 0) (by decide +kernel) rfl ?_
                  obtain ⟨Q38, hQ38, h⟩ := bd1_ed h
                  refine iq_cpI hS 74 J_MSquareRows_penalty_d71 rfl (pr_inst (vs := [_, _, _]) lc_16_206 lT_432 rfl rfl (by decide) (by decide) rfl (Nat.le_of_ble_eq_true rfl) (Nat.le_of_ble_eq_true rfl) (fun _ => Or.inl (pr_b (ka_108 hM) (by decide) rfl))) (f_MSquareRows_module_ok (dep := dep + 1) hM h) rfl ?_
                  intro x38 h
                  replace h := hQ38 _ h
                  refine iq_iadd hS 75 J_MSquareRows_penalty_d74 rfl ?_
                  refine iq_aload_n hS 76 J_MSquareRows_penalty_d75 (lk_1r l30 (by decide)) rfl ?_
                  refine iq_iload hS 78 J_MSquareRows_penalty_d76 (lk_1i l34 (by decide)) rfl ?_
                  refine iq_iload_n hS 79 J_MSquareRows_penalty_d78 (lk_1i l33 (by decide)) rfl ?_
                  refine iq_iconst hS 80 J_MSquareRows_penalty_d79 (v := 1) (by decide +kernel) rfl ?_
                  refine iq_isub hS 81 J_MSquareRows_penalty_d80 rfl ?_
                  refine iq_iconst hS 82 J_MSquareRows_penalty_d81 (v := 0) (by decide +kernel) rfl ?_
                  obtain ⟨Q39, hQ39, h⟩ := bd1_ed h
                  refine iq_cpI hS 85 J_MSquareRows_penalty_d82 rfl (pr_inst (vs := [_, _, _]) lc_16_206 lT_432 rfl rfl (by decide) (by decide) rfl (Nat.le_of_ble_eq_true rfl) (Nat.le_of_ble_eq_true rfl) (fun _ => Or.inl (pr_b (ka_108 hM) (by decide) rfl))) (f_MSquareRows_module_ok (dep := dep + 1) hM h) rfl ?_
                  intro x39 h
                  replace h := hQ39 _ h
                  refine iq_iadd hS 86 J_MSquareRows_penalty_d85 rfl ?_
                  refine iq_aload_n hS 87 J_MSquareRows_penalty_d86 (lk_1r l30 (by decide)) rfl ?_
                  refine iq_iload hS 89 J_MSquareRows_penalty_d87 (lk_1i l34 (by decide)) rfl ?_
                  refine iq_iconst hS 90 J_MSquareRows_penalty_d89 (v := 1) (by decide +kernel) rfl ?_
                  refine iq_isub hS 91 J_MSquareRows_penalty_d90 rfl ?_
                  refine iq_iload_n hS 92 J_MSquareRows_penalty_d91 (lk_1i l33 (by decide)) rfl ?_
                  refine iq_iconst hS 93 J_MSquareRows_penalty_d92 (v := 1) (by decide +kernel) rfl ?_
                  refine iq_isub hS 94 J_MSquareRows_penalty_d93 rfl ?_
                  refine iq_iconst hS 95 J_MSquareRows_penalty_d94 (v := 0) (by decide +kernel) rfl ?_
                  obtain ⟨Q40, hQ40, h⟩ := bd1_ed h
                  refine iq_cpI hS 98 J_MSquareRows_penalty_d95 rfl (pr_inst (vs := [_, _, _]) lc_16_206 lT_432 rfl rfl (by decide) (by decide) rfl (Nat.le_of_ble_eq_true rfl) (Nat.le_of_ble_eq_true rfl) (fun _ => Or.inl (pr_b (ka_108 hM) (by decide) rfl))) (f_MSquareRows_module_ok (dep := dep + 1) hM h) rfl ?_
                  intro x40 h
                  replace h := hQ40 _ h
                  refine iq_iadd hS 99 J_MSquareRows_penalty_d98 rfl ?_
                  refine iq_istore hS 101 J_MSquareRows_penalty_d99 (by decide) rfl ?_
                  refine iq_iload hS 103 J_MSquareRows_penalty_d101 lk_1s rfl ?_
                  have J41 : ∀ (z42 : Int32) (L' : List (Nat × Value)), z42 = ((if (((x37 + x38) + x39) + x40) = 0 then (x27 + 3) else (if ¬ (((x37 + x38) + x39) + x40) = 4 then x27 else (x27 + 3))) : Int32) → im_lk L' 0 = some (.ref 108) → im_lk L' 2 = some (.int (x28 + x35)) → im_lk L' 3 = some (.int x15) → im_lk L' 4 = some (.int x29) → ia (tb_G L xs) (dep + 2) J_MSquareRows_penalty (rpI M Q) (119, L', [.int z42], M) := by
                    intro z42 L' e43 l44 l45 l46 l47
                    subst e43
                    refine iq_istore_n hS 120 J_MSquareRows_penalty_d119 (by decide) rfl ?_
                    exact J36 _ _ (lk_1r l44 (by decide)) lk_1s (lk_1i l45 (by decide)) (lk_1i l46 (by decide)) (lk_1i l47 (by decide)) (ed_some h)
                  refine iq_if_eq hS 106 J_MSquareRows_penalty_d103 (t := 112) rfl (fun q103 => ?_) rfl (fun q103 => ?_)
                  · refine iq_iload_n hS 113 J_MSquareRows_penalty_d112 (lk_1i (lk_1i l31 (by decide)) (by decide)) rfl ?_
                    refine iq_iconst hS 114 J_MSquareRows_penalty_d113 (v := 3) (by decide +kernel) rfl ?_
                    refine iq_iadd hS 115 J_MSquareRows_penalty_d114 rfl ?_
                    refine iq_goto hS J_MSquareRows_penalty_d115 (t := 119) rfl ?_
                    exact J41 _ _ (by simp only [if_pos q103]) (lk_1r (lk_1r l30 (by decide)) (by decide)) (lk_1i lk_1s (by decide)) (lk_1i (lk_1i l33 (by decide)) (by decide)) (lk_1i (lk_1i l34 (by decide)) (by decide))
                  · refine iq_iload hS 108 J_MSquareRows_penalty_d106 lk_1s rfl ?_
                    refine iq_iconst hS 109 J_MSquareRows_penalty_d108 (v := 4) (by decide +kernel) rfl ?_
                    refine iq_icmp_ne hS 112 J_MSquareRows_penalty_d109 (t := 118) rfl (fun q109 => ?_) rfl (fun q109 => ?_)
                    · refine iq_iload_n hS 119 J_MSquareRows_penalty_d118 (lk_1i (lk_1i l31 (by decide)) (by decide)) rfl ?_
                      exact J41 _ _ (by simp only [if_neg q103, if_pos q109]) (lk_1r (lk_1r l30 (by decide)) (by decide)) (lk_1i lk_1s (by decide)) (lk_1i (lk_1i l33 (by decide)) (by decide)) (lk_1i (lk_1i l34 (by decide)) (by decide))
                    · refine iq_iload_n hS 113 J_MSquareRows_penalty_d112 (lk_1i (lk_1i l31 (by decide)) (by decide)) rfl ?_
                      refine iq_iconst hS 114 J_MSquareRows_penalty_d113 (v := 3) (by decide +kernel) rfl ?_
                      refine iq_iadd hS 115 J_MSquareRows_penalty_d114 rfl ?_
                      refine iq_goto hS J_MSquareRows_penalty_d115 (t := 119) rfl ?_
                      exact J41 _ _ (by simp only [if_neg q103, if_neg q109]) (lk_1r (lk_1r l30 (by decide)) (by decide)) (lk_1i lk_1s (by decide)) (lk_1i (lk_1i l33 (by decide)) (by decide)) (lk_1i (lk_1i l34 (by decide)) (by decide))
        exact I20 n20 _ _ _ _ (lk_1r l16 (by decide)) (lk_1i l17 (by decide)) (lk_1i l18 (by decide)) (lk_1i l19 (by decide)) lk_1s hn20
  exact I3 n3 _ _ _ _ (lk_1r (lk_1r (lk_1r l0 (by decide)) (by decide)) (by decide)) (lk_1i (lk_1i lk_1s (by decide)) (by decide)) (lk_1i lk_1s (by decide)) lk_1s hn3
noncomputable def f_MSquareRows_make_L105 (v18 : Int32) (v19 : Int32) (v20 : Int32) (v21 : Int32) (x22 : Int32) (x23 : Int32) (x24 : Int32) (M25 : im_M) : Option ((Int32 × Int32 × Int32 × im_M) ⊕ (Int32 × Int32 × im_M)) := if 8 ≤ x24 then some (.inr (x22, x23, M25)) else bd3 (jn0 (fun (_ : Unit) => bd1 (f_MSquareRows_formNumber v18 x24 M25) fun (x36 : Int32) => bd1 (f_MSquareRows_layForm x36 M25) fun (M37 : im_M) => bd1 (f_MSquareRows_goThrough x24 0 v21 M37) fun (M38 : im_M) => bd1 (f_MSquareRows_penalty M38) fun (x39 : Int32) => jn0 (fun (_ : Unit) => some (x24, x39, M38)) fun k40 => if x23 < 0 then k40 () else if x23 ≤ x39 then some (x22, x23, M38) else k40 ()) fun k27 => if v19 < 0 then k27 () else if ¬ v19 = x24 then some (x22, x23, M25) else k27 ()) fun (y48 : Int32) (y49 : Int32) (M50 : im_M) => some (.inl (y48, y49, (x24 + 1), M50))
noncomputable def f_MSquareRows_make (p0 : Int32) (p1 : Int32) (p2 : Int32) (M : im_M) : Option (Int32 × im_M) := bd1 (jn0 (fun (_ : Unit) => some 1) fun k2 => if p0 < 0 then k2 () else if 3 < p0 then k2 () else if p1 < 0 then k2 () else if 40 < p1 then k2 () else if p2 < (-1) then k2 () else if p2 ≤ 7 then some 0 else k2 ()) fun (y7 : Int32) => if (im_i (im_setI M 108 0 y7) 108 0) ≤ 0 then bd2 (f_MSquareRows_versionFor p0 p1 (im_setI M 108 0 y7)) fun (x12 : Int32) (M12 : im_M) => if 0 ≤ x12 then bd1 (f_MSquareRows_layAll x12 p0 M12) fun (M13 : im_M) => bd1 (f_MSquareRows_check x12 p0 M13) fun (M14 : im_M) => bd1 (f_MSquareRows_frame x12 (im_setI M14 108 7 x12)) fun (M15 : im_M) => bd1 (f_MSquareRows_allCodewords x12 M15) fun (x16 : Int32) => bd3 (lp (uc4 (f_MSquareRows_make_L105 p0 p2 x12 x16)) (p2, (-1), 0, M15)) fun (y59 : Int32) (y60 : Int32) (M61 : im_M) => bd1 (f_MSquareRows_formNumber p0 y59 M61) fun (x62 : Int32) => bd1 (f_MSquareRows_layForm x62 M61) fun (M63 : im_M) => bd1 (f_MSquareRows_goThrough y59 0 x16 M63) fun (M64 : im_M) => gd (inb 0 6) <| gd (inb 1 6) <| gd (inb 2 6) <| gd (inb 3 6) <| gd (inb 4 6) <| gd (inb 5 6) <| some (x12, (im_setI (im_setI (im_setI (im_setI (im_setI (im_setI (im_setI M64 108 9 1) 114 (Int32.toNatClampNeg 0) x12) 114 (Int32.toNatClampNeg 1) p0) 114 (Int32.toNatClampNeg 2) y59) 114 (Int32.toNatClampNeg 3) y60) 114 (Int32.toNatClampNeg 4) (im_i (im_setI (im_setI (im_setI (im_setI (im_setI M64 108 9 1) 114 (Int32.toNatClampNeg 0) x12) 114 (Int32.toNatClampNeg 1) p0) 114 (Int32.toNatClampNeg 2) y59) 114 (Int32.toNatClampNeg 3) y60) 108 13)) 114 (Int32.toNatClampNeg 5) (im_i (im_setI (im_setI (im_setI (im_setI (im_setI (im_setI M64 108 9 1) 114 (Int32.toNatClampNeg 0) x12) 114 (Int32.toNatClampNeg 1) p0) 114 (Int32.toNatClampNeg 2) y59) 114 (Int32.toNatClampNeg 3) y60) 114 (Int32.toNatClampNeg 4) (im_i (im_setI (im_setI (im_setI (im_setI (im_setI M64 108 9 1) 114 (Int32.toNatClampNeg 0) x12) 114 (Int32.toNatClampNeg 1) p0) 114 (Int32.toNatClampNeg 2) y59) 114 (Int32.toNatClampNeg 3) y60) 108 13)) 108 16))) else some ((-1), M12) else some (0, (im_setI M 108 0 y7))
theorem J_MSquareRows_make_d0 : decode J_MSquareRows_make.2.1 0 = .ok (.aload_n 0, 1) := by decide +kernel
theorem J_MSquareRows_make_d1 : decode J_MSquareRows_make.2.1 1 = .ok (.iload_n 1, 1) := by decide +kernel
theorem J_MSquareRows_make_d2 : decode J_MSquareRows_make.2.1 2 = .ok (.ifCond .lt 29, 3) := by decide +kernel
theorem J_MSquareRows_make_d5 : decode J_MSquareRows_make.2.1 5 = .ok (.iload_n 1, 1) := by decide +kernel
theorem J_MSquareRows_make_d6 : decode J_MSquareRows_make.2.1 6 = .ok (.iconst 3, 1) := by decide +kernel
theorem J_MSquareRows_make_d7 : decode J_MSquareRows_make.2.1 7 = .ok (.if_icmp .gt 24, 3) := by decide +kernel
theorem J_MSquareRows_make_d10 : decode J_MSquareRows_make.2.1 10 = .ok (.iload_n 2, 1) := by decide +kernel
theorem J_MSquareRows_make_d11 : decode J_MSquareRows_make.2.1 11 = .ok (.ifCond .lt 20, 3) := by decide +kernel
theorem J_MSquareRows_make_d14 : decode J_MSquareRows_make.2.1 14 = .ok (.iload_n 2, 1) := by decide +kernel
theorem J_MSquareRows_make_d15 : decode J_MSquareRows_make.2.1 15 = .ok (.bipush 40, 2) := by decide +kernel
theorem J_MSquareRows_make_d17 : decode J_MSquareRows_make.2.1 17 = .ok (.if_icmp .gt 14, 3) := by decide +kernel
theorem J_MSquareRows_make_d20 : decode J_MSquareRows_make.2.1 20 = .ok (.iload_n 3, 1) := by decide +kernel
theorem J_MSquareRows_make_d21 : decode J_MSquareRows_make.2.1 21 = .ok (.iconst (-1), 1) := by decide +kernel
theorem J_MSquareRows_make_d22 : decode J_MSquareRows_make.2.1 22 = .ok (.if_icmp .lt 9, 3) := by decide +kernel
theorem J_MSquareRows_make_d25 : decode J_MSquareRows_make.2.1 25 = .ok (.iload_n 3, 1) := by decide +kernel
theorem J_MSquareRows_make_d26 : decode J_MSquareRows_make.2.1 26 = .ok (.bipush 7, 2) := by decide +kernel
theorem J_MSquareRows_make_d28 : decode J_MSquareRows_make.2.1 28 = .ok (.if_icmp .le 7, 3) := by decide +kernel
theorem J_MSquareRows_make_d31 : decode J_MSquareRows_make.2.1 31 = .ok (.iconst 1, 1) := by decide +kernel
theorem J_MSquareRows_make_d32 : decode J_MSquareRows_make.2.1 32 = .ok (.goto 4, 3) := by decide +kernel
theorem J_MSquareRows_make_d35 : decode J_MSquareRows_make.2.1 35 = .ok (.iconst 0, 1) := by decide +kernel
theorem J_MSquareRows_make_d36 : decode J_MSquareRows_make.2.1 36 = .ok (.putfield 73, 3) := by decide +kernel
theorem J_MSquareRows_make_d39 : decode J_MSquareRows_make.2.1 39 = .ok (.aload_n 0, 1) := by decide +kernel
theorem J_MSquareRows_make_d40 : decode J_MSquareRows_make.2.1 40 = .ok (.getfield 73, 3) := by decide +kernel
theorem J_MSquareRows_make_d43 : decode J_MSquareRows_make.2.1 43 = .ok (.ifCond .le 5, 3) := by decide +kernel
theorem J_MSquareRows_make_d46 : decode J_MSquareRows_make.2.1 46 = .ok (.iconst 0, 1) := by decide +kernel
theorem J_MSquareRows_make_d47 : decode J_MSquareRows_make.2.1 47 = .ok (.ireturn, 1) := by decide +kernel
theorem J_MSquareRows_make_d48 : decode J_MSquareRows_make.2.1 48 = .ok (.aload_n 0, 1) := by decide +kernel
theorem J_MSquareRows_make_d49 : decode J_MSquareRows_make.2.1 49 = .ok (.iload_n 1, 1) := by decide +kernel
theorem J_MSquareRows_make_d50 : decode J_MSquareRows_make.2.1 50 = .ok (.iload_n 2, 1) := by decide +kernel
theorem J_MSquareRows_make_d51 : decode J_MSquareRows_make.2.1 51 = .ok (.invokevirtual 220, 3) := by decide +kernel
theorem J_MSquareRows_make_d54 : decode J_MSquareRows_make.2.1 54 = .ok (.istore 4, 2) := by decide +kernel
theorem J_MSquareRows_make_d56 : decode J_MSquareRows_make.2.1 56 = .ok (.iload 4, 2) := by decide +kernel
theorem J_MSquareRows_make_d58 : decode J_MSquareRows_make.2.1 58 = .ok (.ifCond .ge 5, 3) := by decide +kernel
theorem J_MSquareRows_make_d61 : decode J_MSquareRows_make.2.1 61 = .ok (.iconst (-1), 1) := by decide +kernel
theorem J_MSquareRows_make_d62 : decode J_MSquareRows_make.2.1 62 = .ok (.ireturn, 1) := by decide +kernel
theorem J_MSquareRows_make_d63 : decode J_MSquareRows_make.2.1 63 = .ok (.aload_n 0, 1) := by decide +kernel
theorem J_MSquareRows_make_d64 : decode J_MSquareRows_make.2.1 64 = .ok (.iload 4, 2) := by decide +kernel
theorem J_MSquareRows_make_d66 : decode J_MSquareRows_make.2.1 66 = .ok (.iload_n 1, 1) := by decide +kernel
theorem J_MSquareRows_make_d67 : decode J_MSquareRows_make.2.1 67 = .ok (.invokevirtual 223, 3) := by decide +kernel
theorem J_MSquareRows_make_d70 : decode J_MSquareRows_make.2.1 70 = .ok (.aload_n 0, 1) := by decide +kernel
theorem J_MSquareRows_make_d71 : decode J_MSquareRows_make.2.1 71 = .ok (.iload 4, 2) := by decide +kernel
theorem J_MSquareRows_make_d73 : decode J_MSquareRows_make.2.1 73 = .ok (.iload_n 1, 1) := by decide +kernel
theorem J_MSquareRows_make_d74 : decode J_MSquareRows_make.2.1 74 = .ok (.invokevirtual 226, 3) := by decide +kernel
theorem J_MSquareRows_make_d77 : decode J_MSquareRows_make.2.1 77 = .ok (.aload_n 0, 1) := by decide +kernel
theorem J_MSquareRows_make_d78 : decode J_MSquareRows_make.2.1 78 = .ok (.iload 4, 2) := by decide +kernel
theorem J_MSquareRows_make_d80 : decode J_MSquareRows_make.2.1 80 = .ok (.putfield 229, 3) := by decide +kernel
theorem J_MSquareRows_make_d83 : decode J_MSquareRows_make.2.1 83 = .ok (.aload_n 0, 1) := by decide +kernel
theorem J_MSquareRows_make_d84 : decode J_MSquareRows_make.2.1 84 = .ok (.iload 4, 2) := by decide +kernel
theorem J_MSquareRows_make_d86 : decode J_MSquareRows_make.2.1 86 = .ok (.invokevirtual 232, 3) := by decide +kernel
theorem J_MSquareRows_make_d89 : decode J_MSquareRows_make.2.1 89 = .ok (.iload 4, 2) := by decide +kernel
theorem J_MSquareRows_make_d91 : decode J_MSquareRows_make.2.1 91 = .ok (.invokestatic 82, 3) := by decide +kernel
theorem J_MSquareRows_make_d94 : decode J_MSquareRows_make.2.1 94 = .ok (.istore 5, 2) := by decide +kernel
theorem J_MSquareRows_make_d96 : decode J_MSquareRows_make.2.1 96 = .ok (.iload_n 3, 1) := by decide +kernel
theorem J_MSquareRows_make_d97 : decode J_MSquareRows_make.2.1 97 = .ok (.istore 6, 2) := by decide +kernel
theorem J_MSquareRows_make_d99 : decode J_MSquareRows_make.2.1 99 = .ok (.iconst (-1), 1) := by decide +kernel
theorem J_MSquareRows_make_d100 : decode J_MSquareRows_make.2.1 100 = .ok (.istore 7, 2) := by decide +kernel
theorem J_MSquareRows_make_d102 : decode J_MSquareRows_make.2.1 102 = .ok (.iconst 0, 1) := by decide +kernel
theorem J_MSquareRows_make_d103 : decode J_MSquareRows_make.2.1 103 = .ok (.istore 8, 2) := by decide +kernel
theorem J_MSquareRows_make_d105 : decode J_MSquareRows_make.2.1 105 = .ok (.iload 8, 2) := by decide +kernel
theorem J_MSquareRows_make_d107 : decode J_MSquareRows_make.2.1 107 = .ok (.bipush 8, 2) := by decide +kernel
theorem J_MSquareRows_make_d109 : decode J_MSquareRows_make.2.1 109 = .ok (.if_icmp .ge 64, 3) := by decide +kernel
theorem J_MSquareRows_make_d112 : decode J_MSquareRows_make.2.1 112 = .ok (.iload_n 3, 1) := by decide +kernel
theorem J_MSquareRows_make_d113 : decode J_MSquareRows_make.2.1 113 = .ok (.ifCond .lt 9, 3) := by decide +kernel
theorem J_MSquareRows_make_d116 : decode J_MSquareRows_make.2.1 116 = .ok (.iload_n 3, 1) := by decide +kernel
theorem J_MSquareRows_make_d117 : decode J_MSquareRows_make.2.1 117 = .ok (.iload 8, 2) := by decide +kernel
theorem J_MSquareRows_make_d119 : decode J_MSquareRows_make.2.1 119 = .ok (.if_icmp .ne 48, 3) := by decide +kernel
theorem J_MSquareRows_make_d122 : decode J_MSquareRows_make.2.1 122 = .ok (.aload_n 0, 1) := by decide +kernel
theorem J_MSquareRows_make_d123 : decode J_MSquareRows_make.2.1 123 = .ok (.iload_n 1, 1) := by decide +kernel
theorem J_MSquareRows_make_d124 : decode J_MSquareRows_make.2.1 124 = .ok (.iload 8, 2) := by decide +kernel
theorem J_MSquareRows_make_d126 : decode J_MSquareRows_make.2.1 126 = .ok (.invokestatic 235, 3) := by decide +kernel
theorem J_MSquareRows_make_d129 : decode J_MSquareRows_make.2.1 129 = .ok (.invokevirtual 199, 3) := by decide +kernel
theorem J_MSquareRows_make_d132 : decode J_MSquareRows_make.2.1 132 = .ok (.aload_n 0, 1) := by decide +kernel
theorem J_MSquareRows_make_d133 : decode J_MSquareRows_make.2.1 133 = .ok (.iload 8, 2) := by decide +kernel
theorem J_MSquareRows_make_d135 : decode J_MSquareRows_make.2.1 135 = .ok (.iconst 0, 1) := by decide +kernel
theorem J_MSquareRows_make_d136 : decode J_MSquareRows_make.2.1 136 = .ok (.iload 5, 2) := by decide +kernel
theorem J_MSquareRows_make_d138 : decode J_MSquareRows_make.2.1 138 = .ok (.invokevirtual 238, 3) := by decide +kernel
theorem J_MSquareRows_make_d141 : decode J_MSquareRows_make.2.1 141 = .ok (.aload_n 0, 1) := by decide +kernel
theorem J_MSquareRows_make_d142 : decode J_MSquareRows_make.2.1 142 = .ok (.invokevirtual 242, 3) := by decide +kernel
theorem J_MSquareRows_make_d145 : decode J_MSquareRows_make.2.1 145 = .ok (.istore 9, 2) := by decide +kernel
theorem J_MSquareRows_make_d147 : decode J_MSquareRows_make.2.1 147 = .ok (.iload 7, 2) := by decide +kernel
theorem J_MSquareRows_make_d149 : decode J_MSquareRows_make.2.1 149 = .ok (.ifCond .lt 10, 3) := by decide +kernel
theorem J_MSquareRows_make_d152 : decode J_MSquareRows_make.2.1 152 = .ok (.iload 9, 2) := by decide +kernel
theorem J_MSquareRows_make_d154 : decode J_MSquareRows_make.2.1 154 = .ok (.iload 7, 2) := by decide +kernel
theorem J_MSquareRows_make_d156 : decode J_MSquareRows_make.2.1 156 = .ok (.if_icmp .ge 11, 3) := by decide +kernel
theorem J_MSquareRows_make_d159 : decode J_MSquareRows_make.2.1 159 = .ok (.iload 9, 2) := by decide +kernel
theorem J_MSquareRows_make_d161 : decode J_MSquareRows_make.2.1 161 = .ok (.istore 7, 2) := by decide +kernel
theorem J_MSquareRows_make_d163 : decode J_MSquareRows_make.2.1 163 = .ok (.iload 8, 2) := by decide +kernel
theorem J_MSquareRows_make_d165 : decode J_MSquareRows_make.2.1 165 = .ok (.istore 6, 2) := by decide +kernel
theorem J_MSquareRows_make_d167 : decode J_MSquareRows_make.2.1 167 = .ok (.iinc 8 1, 3) := by decide +kernel
theorem J_MSquareRows_make_d170 : decode J_MSquareRows_make.2.1 170 = .ok (.goto (-65), 3) := by decide +kernel
theorem J_MSquareRows_make_d173 : decode J_MSquareRows_make.2.1 173 = .ok (.aload_n 0, 1) := by decide +kernel
theorem J_MSquareRows_make_d174 : decode J_MSquareRows_make.2.1 174 = .ok (.iload_n 1, 1) := by decide +kernel
theorem J_MSquareRows_make_d175 : decode J_MSquareRows_make.2.1 175 = .ok (.iload 6, 2) := by decide +kernel
theorem J_MSquareRows_make_d177 : decode J_MSquareRows_make.2.1 177 = .ok (.invokestatic 235, 3) := by decide +kernel
theorem J_MSquareRows_make_d180 : decode J_MSquareRows_make.2.1 180 = .ok (.invokevirtual 199, 3) := by decide +kernel
theorem J_MSquareRows_make_d183 : decode J_MSquareRows_make.2.1 183 = .ok (.aload_n 0, 1) := by decide +kernel
theorem J_MSquareRows_make_d184 : decode J_MSquareRows_make.2.1 184 = .ok (.iload 6, 2) := by decide +kernel
theorem J_MSquareRows_make_d186 : decode J_MSquareRows_make.2.1 186 = .ok (.iconst 0, 1) := by decide +kernel
theorem J_MSquareRows_make_d187 : decode J_MSquareRows_make.2.1 187 = .ok (.iload 5, 2) := by decide +kernel
theorem J_MSquareRows_make_d189 : decode J_MSquareRows_make.2.1 189 = .ok (.invokevirtual 238, 3) := by decide +kernel
theorem J_MSquareRows_make_d192 : decode J_MSquareRows_make.2.1 192 = .ok (.aload_n 0, 1) := by decide +kernel
theorem J_MSquareRows_make_d193 : decode J_MSquareRows_make.2.1 193 = .ok (.iconst 1, 1) := by decide +kernel
theorem J_MSquareRows_make_d194 : decode J_MSquareRows_make.2.1 194 = .ok (.putfield 246, 3) := by decide +kernel
theorem J_MSquareRows_make_d197 : decode J_MSquareRows_make.2.1 197 = .ok (.aload_n 0, 1) := by decide +kernel
theorem J_MSquareRows_make_d198 : decode J_MSquareRows_make.2.1 198 = .ok (.getfield 25, 3) := by decide +kernel
theorem J_MSquareRows_make_d201 : decode J_MSquareRows_make.2.1 201 = .ok (.iconst 0, 1) := by decide +kernel
theorem J_MSquareRows_make_d202 : decode J_MSquareRows_make.2.1 202 = .ok (.iload 4, 2) := by decide +kernel
theorem J_MSquareRows_make_d204 : decode J_MSquareRows_make.2.1 204 = .ok (.iastore, 1) := by decide +kernel
theorem J_MSquareRows_make_d205 : decode J_MSquareRows_make.2.1 205 = .ok (.aload_n 0, 1) := by decide +kernel
theorem J_MSquareRows_make_d206 : decode J_MSquareRows_make.2.1 206 = .ok (.getfield 25, 3) := by decide +kernel
theorem J_MSquareRows_make_d209 : decode J_MSquareRows_make.2.1 209 = .ok (.iconst 1, 1) := by decide +kernel
theorem J_MSquareRows_make_d210 : decode J_MSquareRows_make.2.1 210 = .ok (.iload_n 1, 1) := by decide +kernel
theorem J_MSquareRows_make_d211 : decode J_MSquareRows_make.2.1 211 = .ok (.iastore, 1) := by decide +kernel
theorem J_MSquareRows_make_d212 : decode J_MSquareRows_make.2.1 212 = .ok (.aload_n 0, 1) := by decide +kernel
theorem J_MSquareRows_make_d213 : decode J_MSquareRows_make.2.1 213 = .ok (.getfield 25, 3) := by decide +kernel
theorem J_MSquareRows_make_d216 : decode J_MSquareRows_make.2.1 216 = .ok (.iconst 2, 1) := by decide +kernel
theorem J_MSquareRows_make_d217 : decode J_MSquareRows_make.2.1 217 = .ok (.iload 6, 2) := by decide +kernel
theorem J_MSquareRows_make_d219 : decode J_MSquareRows_make.2.1 219 = .ok (.iastore, 1) := by decide +kernel
theorem J_MSquareRows_make_d220 : decode J_MSquareRows_make.2.1 220 = .ok (.aload_n 0, 1) := by decide +kernel
theorem J_MSquareRows_make_d221 : decode J_MSquareRows_make.2.1 221 = .ok (.getfield 25, 3) := by decide +kernel
theorem J_MSquareRows_make_d224 : decode J_MSquareRows_make.2.1 224 = .ok (.iconst 3, 1) := by decide +kernel
theorem J_MSquareRows_make_d225 : decode J_MSquareRows_make.2.1 225 = .ok (.iload 7, 2) := by decide +kernel
theorem J_MSquareRows_make_d227 : decode J_MSquareRows_make.2.1 227 = .ok (.iastore, 1) := by decide +kernel
theorem J_MSquareRows_make_d228 : decode J_MSquareRows_make.2.1 228 = .ok (.aload_n 0, 1) := by decide +kernel
theorem J_MSquareRows_make_d229 : decode J_MSquareRows_make.2.1 229 = .ok (.getfield 25, 3) := by decide +kernel
theorem J_MSquareRows_make_d232 : decode J_MSquareRows_make.2.1 232 = .ok (.iconst 4, 1) := by decide +kernel
theorem J_MSquareRows_make_d233 : decode J_MSquareRows_make.2.1 233 = .ok (.aload_n 0, 1) := by decide +kernel
theorem J_MSquareRows_make_d234 : decode J_MSquareRows_make.2.1 234 = .ok (.getfield 127, 3) := by decide +kernel
theorem J_MSquareRows_make_d237 : decode J_MSquareRows_make.2.1 237 = .ok (.iastore, 1) := by decide +kernel
theorem J_MSquareRows_make_d238 : decode J_MSquareRows_make.2.1 238 = .ok (.aload_n 0, 1) := by decide +kernel
theorem J_MSquareRows_make_d239 : decode J_MSquareRows_make.2.1 239 = .ok (.getfield 25, 3) := by decide +kernel
theorem J_MSquareRows_make_d242 : decode J_MSquareRows_make.2.1 242 = .ok (.iconst 5, 1) := by decide +kernel
theorem J_MSquareRows_make_d243 : decode J_MSquareRows_make.2.1 243 = .ok (.aload_n 0, 1) := by decide +kernel
theorem J_MSquareRows_make_d244 : decode J_MSquareRows_make.2.1 244 = .ok (.getfield 121, 3) := by decide +kernel
theorem J_MSquareRows_make_d247 : decode J_MSquareRows_make.2.1 247 = .ok (.iastore, 1) := by decide +kernel
theorem J_MSquareRows_make_d248 : decode J_MSquareRows_make.2.1 248 = .ok (.iload 4, 2) := by decide +kernel
theorem J_MSquareRows_make_d250 : decode J_MSquareRows_make.2.1 250 = .ok (.ireturn, 1) := by decide +kernel
theorem f_MSquareRows_make_ok {L : Nat} {xs : Nat → Int32} {dep : Nat} {w : Bool} {p0 : Int32} {p1 : Int32} {p2 : Int32} {M : im_M} {Q : Int32 × im_M → Prop} (hM : lw_S w M) (h : ed (f_MSquareRows_make p0 p1 p2 M) Q) : ia (tb_G L xs) (dep + 8) J_MSquareRows_make (rwI w Q) (0, lv_args 0 [.ref 108, .int p0, .int p1, .int p2], [], M) := by
  have hS : im_St (tb_G L xs) (dep + 8) J_MSquareRows_make (ia (tb_G L xs) (dep + 8) J_MSquareRows_make (rwI w Q)) := ia_St
  unfold f_MSquareRows_make at h
  have l0 : im_lk (lv_args 0 [.ref 108, .int p0, .int p1, .int p2]) 0 = some (.ref 108) := rfl
  have l1 : im_lk (lv_args 0 [.ref 108, .int p0, .int p1, .int p2]) 1 = some (.int p0) := rfl
  have l2 : im_lk (lv_args 0 [.ref 108, .int p0, .int p1, .int p2]) 2 = some (.int p1) := rfl
  have l3 : im_lk (lv_args 0 [.ref 108, .int p0, .int p1, .int p2]) 3 = some (.int p2) := rfl
  refine iq_aload_n hS 1 J_MSquareRows_make_d0 l0 rfl ?_
  refine iq_iload_n hS 2 J_MSquareRows_make_d1 l1 rfl ?_
  obtain ⟨Q1, hQ1, h⟩ := bd1_ed h
  have J1 : ∀ (y7 : Int32) (L' : List (Nat × Value)), im_lk L' 0 = some (.ref 108) → im_lk L' 1 = some (.int p0) → im_lk L' 2 = some (.int p1) → im_lk L' 3 = some (.int p2) → Q1 y7 → ia (tb_G L xs) (dep + 8) J_MSquareRows_make (rwI w Q) (36, L', [.int y7, .ref 108], M) := by
    intro y7 L' l8 l9 l10 l11 h
    replace h := hQ1 _ h
    refine iq_putI hS 39 J_MSquareRows_make_d36 lf_16_73 (Or.inl rfl) rfl (ka_108 hM) rfl ?_
    refine iq_aload_n hS 40 J_MSquareRows_make_d39 l8 rfl ?_
    refine iq_getI hS 43 J_MSquareRows_make_d40 lf_16_73 (Or.inl rfl) (ka_108 (lw_sI hM)) rfl ?_
    refine iq_if_le hS 46 J_MSquareRows_make_d43 (t := 48) rfl (fun q43 => ?_) rfl (fun q43 => ?_)
    · replace h := ed_pos q43 h
      refine iq_aload_n hS 49 J_MSquareRows_make_d48 l8 rfl ?_
      refine iq_iload_n hS 50 J_MSquareRows_make_d49 l9 rfl ?_
      refine iq_iload_n hS 51 J_MSquareRows_make_d50 l10 rfl ?_
      obtain ⟨Q12, hQ12, h⟩ := bd2_ed h
      refine iq_cwI hS 54 J_MSquareRows_make_d51 rfl (pr_inst (vs := [_, _]) lc_16_220 lT_389 rfl rfl (by decide) (by decide) rfl (Nat.le_of_ble_eq_true rfl) (Nat.le_of_ble_eq_true rfl) (fun _ => Or.inl (pr_b (ka_108 (lw_sI hM)) (by decide) rfl))) (f_MSquareRows_versionFor_ok (dep := dep + 0) (lw_sI hM) h) rfl ?_
      intro x12 M12 hM12 h
      replace h := hQ12 _ _ h
      refine iq_istore hS 56 J_MSquareRows_make_d54 (by decide) rfl ?_
      refine iq_iload hS 58 J_MSquareRows_make_d56 lk_1s rfl ?_
      refine iq_if_ge hS 61 J_MSquareRows_make_d58 (t := 63) rfl (fun q58 => ?_) rfl (fun q58 => ?_)
      · replace h := ed_pos q58 h
        refine iq_aload_n hS 64 J_MSquareRows_make_d63 (lk_1r l8 (by decide)) rfl ?_
        refine iq_iload hS 66 J_MSquareRows_make_d64 lk_1s rfl ?_
        refine iq_iload_n hS 67 J_MSquareRows_make_d66 (lk_1i l9 (by decide)) rfl ?_
        obtain ⟨Q13, hQ13, h⟩ := bd1_ed h
        refine iq_cwV hS 70 J_MSquareRows_make_d67 rfl (pr_inst (vs := [_, _]) lc_16_223 lT_405 rfl rfl (by decide) (by decide) rfl (Nat.le_of_ble_eq_true rfl) (Nat.le_of_ble_eq_true rfl) (fun _ => Or.inl (pr_b (ka_108 hM12) (by decide) rfl))) (f_MSquareRows_layAll_ok (dep := dep + 5) hM12 h) rfl ?_
        intro M13 hM13 h
        replace h := hQ13 _ h
        refine iq_aload_n hS 71 J_MSquareRows_make_d70 (lk_1r l8 (by decide)) rfl ?_
        refine iq_iload hS 73 J_MSquareRows_make_d71 lk_1s rfl ?_
        refine iq_iload_n hS 74 J_MSquareRows_make_d73 (lk_1i l9 (by decide)) rfl ?_
        obtain ⟨Q14, hQ14, h⟩ := bd1_ed h
        refine iq_cwV hS 77 J_MSquareRows_make_d74 rfl (pr_inst (vs := [_, _]) lc_16_226 lT_408 rfl rfl (by decide) (by decide) rfl (Nat.le_of_ble_eq_true rfl) (Nat.le_of_ble_eq_true rfl) (fun _ => Or.inl (pr_b (ka_108 hM13) (by decide) rfl))) (f_MSquareRows_check_ok (dep := dep + 3) hM13 h) rfl ?_
        intro M14 hM14 h
        replace h := hQ14 _ h
        refine iq_aload_n hS 78 J_MSquareRows_make_d77 (lk_1r l8 (by decide)) rfl ?_
        refine iq_iload hS 80 J_MSquareRows_make_d78 lk_1s rfl ?_
        refine iq_putI hS 83 J_MSquareRows_make_d80 lf_16_229 (Or.inl rfl) rfl (ka_108 hM14) rfl ?_
        refine iq_aload_n hS 84 J_MSquareRows_make_d83 (lk_1r l8 (by decide)) rfl ?_
        refine iq_iload hS 86 J_MSquareRows_make_d84 lk_1s rfl ?_
        obtain ⟨Q15, hQ15, h⟩ := bd1_ed h
        refine iq_cwV hS 89 J_MSquareRows_make_d86 rfl (pr_inst (vs := [_]) lc_16_232 lT_415 rfl rfl (by decide) (by decide) rfl (Nat.le_of_ble_eq_true rfl) (Nat.le_of_ble_eq_true rfl) (fun _ => Or.inl (pr_b (ka_108 (lw_sI hM14)) (by decide) rfl))) (f_MSquareRows_frame_ok (dep := dep + 4) (lw_sI hM14) h) rfl ?_
        intro M15 hM15 h
        replace h := hQ15 _ h
        refine iq_iload hS 91 J_MSquareRows_make_d89 lk_1s rfl ?_
        obtain ⟨Q16, hQ16, h⟩ := bd1_ed h
        refine iq_cpI hS 94 J_MSquareRows_make_d91 rfl (pr_stat (vs := [_]) lc_16_82 lT_402 rfl rfl (by decide) rfl (Nat.le_of_ble_eq_true rfl) (Nat.le_of_ble_eq_true rfl)) (f_MSquareRows_allCodewords_ok (dep := dep + 7) hM15 h) rfl ?_
        intro x16 h
        replace h := hQ16 _ h
        refine iq_istore hS 96 J_MSquareRows_make_d94 (by decide) rfl ?_
        refine iq_iload_n hS 97 J_MSquareRows_make_d96 (lk_1i (lk_1i l11 (by decide)) (by decide)) rfl ?_
        refine iq_istore hS 99 J_MSquareRows_make_d97 (by decide) rfl ?_
        refine iq_iconst hS 100 J_MSquareRows_make_d99 (v := (-1)) (by decide +kernel) rfl ?_
        refine iq_istore hS 102 J_MSquareRows_make_d100 (by decide) rfl ?_
        refine iq_iconst hS 103 J_MSquareRows_make_d102 (v := 0) (by decide +kernel) rfl ?_
        refine iq_istore hS 105 J_MSquareRows_make_d103 (by decide) rfl ?_
        obtain ⟨Q17, hQ17, h⟩ := bd3_ed h
        have K17 : ∀ (y18 : Int32) (y19 : Int32) (M20 : im_M) (L' : List (Nat × Value)), lw_S w M20 → im_lk L' 0 = some (.ref 108) → im_lk L' 1 = some (.int p0) → im_lk L' 4 = some (.int x12) → im_lk L' 5 = some (.int x16) → im_lk L' 6 = some (.int y18) → im_lk L' 7 = some (.int y19) → Q17 (y18, y19, M20) → ia (tb_G L xs) (dep + 8) J_MSquareRows_make (rwI w Q) (173, L', [], M20) := by
          intro y18 y19 M20 L' hM20 l21 l22 l23 l24 l25 l26 h
          replace h := hQ17 _ _ _ h
          refine iq_aload_n hS 174 J_MSquareRows_make_d173 l21 rfl ?_
          refine iq_iload_n hS 175 J_MSquareRows_make_d174 l22 rfl ?_
          refine iq_iload hS 177 J_MSquareRows_make_d175 l25 rfl ?_
          obtain ⟨Q27, hQ27, h⟩ := bd1_ed h
          refine iq_cpI hS 180 J_MSquareRows_make_d177 rfl (pr_stat (vs := [_, _]) lc_16_235 lT_427 rfl rfl (by decide) rfl (Nat.le_of_ble_eq_true rfl) (Nat.le_of_ble_eq_true rfl)) (f_MSquareRows_formNumber_ok (dep := dep + 7) hM20 h) rfl ?_
          intro x27 h
          replace h := hQ27 _ h
          obtain ⟨Q28, hQ28, h⟩ := bd1_ed h
          refine iq_cwV hS 183 J_MSquareRows_make_d180 rfl (pr_inst (vs := [_]) lc_16_199 lT_422 rfl rfl (by decide) (by decide) rfl (Nat.le_of_ble_eq_true rfl) (Nat.le_of_ble_eq_true rfl) (fun _ => Or.inl (pr_b (ka_108 hM20) (by decide) rfl))) (f_MSquareRows_layForm_ok (dep := dep + 5) hM20 h) rfl ?_
          intro M28 hM28 h
          replace h := hQ28 _ h
          refine iq_aload_n hS 184 J_MSquareRows_make_d183 l21 rfl ?_
          refine iq_iload hS 186 J_MSquareRows_make_d184 l25 rfl ?_
          refine iq_iconst hS 187 J_MSquareRows_make_d186 (v := 0) (by decide +kernel) rfl ?_
          refine iq_iload hS 189 J_MSquareRows_make_d187 l24 rfl ?_
          obtain ⟨Q29, hQ29, h⟩ := bd1_ed h
          refine iq_cwV hS 192 J_MSquareRows_make_d189 rfl (pr_inst (vs := [_, _, _]) lc_16_238 lT_428 rfl rfl (by decide) (by decide) rfl (Nat.le_of_ble_eq_true rfl) (Nat.le_of_ble_eq_true rfl) (fun _ => Or.inl (pr_b (ka_108 hM28) (by decide) rfl))) (f_MSquareRows_goThrough_ok (dep := dep + 6) hM28 h) rfl ?_
          intro M29 hM29 h
          replace h := hQ29 _ h
          refine iq_aload_n hS 193 J_MSquareRows_make_d192 l21 rfl ?_
          refine iq_iconst hS 194 J_MSquareRows_make_d193 (v := 1) (by decide +kernel) rfl ?_
          refine iq_putZ hS 197 J_MSquareRows_make_d194 lf_16_246 (Or.inl rfl) rfl (ka_108 hM29) (Or.inr rfl) rfl ?_
          refine iq_aload_n hS 198 J_MSquareRows_make_d197 l21 rfl ?_
          refine iq_getR hS 201 J_MSquareRows_make_d198 lf_16_25 (Or.inr ⟨_, rfl⟩) (ka_108 (lw_sI hM29)) (ra_108_10 (lw_sI hM29)) rfl ?_
          refine iq_iconst hS 202 J_MSquareRows_make_d201 (v := 0) (by decide +kernel) rfl ?_
          refine iq_iload hS 204 J_MSquareRows_make_d202 l23 rfl ?_
          obtain ⟨g204, h⟩ := ed_gd h
          refine iq_iastore hS 205 J_MSquareRows_make_d204 ⟨(ka_114 (lw_sI hM29)).1, (ka_114 (lw_sI hM29)).2, g204.1, ix_lt (kl_114 (lw_sI hM29)) g204.2⟩ rfl ?_
          refine iq_aload_n hS 206 J_MSquareRows_make_d205 l21 rfl ?_
          refine iq_getR hS 209 J_MSquareRows_make_d206 lf_16_25 (Or.inr ⟨_, rfl⟩) (ka_108 (lw_sI (lw_sI hM29))) (ra_108_10 (lw_sI (lw_sI hM29))) rfl ?_
          refine iq_iconst hS 210 J_MSquareRows_make_d209 (v := 1) (by decide +kernel) rfl ?_
          refine iq_iload_n hS 211 J_MSquareRows_make_d210 l22 rfl ?_
          obtain ⟨g211, h⟩ := ed_gd h
          refine iq_iastore hS 212 J_MSquareRows_make_d211 ⟨(ka_114 (lw_sI (lw_sI hM29))).1, (ka_114 (lw_sI (lw_sI hM29))).2, g211.1, ix_lt (kl_114 (lw_sI (lw_sI hM29))) g211.2⟩ rfl ?_
          refine iq_aload_n hS 213 J_MSquareRows_make_d212 l21 rfl ?_
          refine iq_getR hS 216 J_MSquareRows_make_d213 lf_16_25 (Or.inr ⟨_, rfl⟩) (ka_108 (lw_sI (lw_sI (lw_sI hM29)))) (ra_108_10 (lw_sI (lw_sI (lw_sI hM29)))) rfl ?_
          refine iq_iconst hS 217 J_MSquareRows_make_d216 (v := 2) (by decide +kernel) rfl ?_
          refine iq_iload hS 219 J_MSquareRows_make_d217 l25 rfl ?_
          obtain ⟨g219, h⟩ := ed_gd h
          refine iq_iastore hS 220 J_MSquareRows_make_d219 ⟨(ka_114 (lw_sI (lw_sI (lw_sI hM29)))).1, (ka_114 (lw_sI (lw_sI (lw_sI hM29)))).2, g219.1, ix_lt (kl_114 (lw_sI (lw_sI (lw_sI hM29)))) g219.2⟩ rfl ?_
          refine iq_aload_n hS 221 J_MSquareRows_make_d220 l21 rfl ?_
          refine iq_getR hS 224 J_MSquareRows_make_d221 lf_16_25 (Or.inr ⟨_, rfl⟩) (ka_108 (lw_sI (lw_sI (lw_sI (lw_sI hM29))))) (ra_108_10 (lw_sI (lw_sI (lw_sI (lw_sI hM29))))) rfl ?_
          refine iq_iconst hS 225 J_MSquareRows_make_d224 (v := 3) (by decide +kernel) rfl ?_
          refine iq_iload hS 227 J_MSquareRows_make_d225 l26 rfl ?_
          obtain ⟨g227, h⟩ := ed_gd h
          refine iq_iastore hS 228 J_MSquareRows_make_d227 ⟨(ka_114 (lw_sI (lw_sI (lw_sI (lw_sI hM29))))).1, (ka_114 (lw_sI (lw_sI (lw_sI (lw_sI hM29))))).2, g227.1, ix_lt (kl_114 (lw_sI (lw_sI (lw_sI (lw_sI hM29))))) g227.2⟩ rfl ?_
          refine iq_aload_n hS 229 J_MSquareRows_make_d228 l21 rfl ?_
          refine iq_getR hS 232 J_MSquareRows_make_d229 lf_16_25 (Or.inr ⟨_, rfl⟩) (ka_108 (lw_sI (lw_sI (lw_sI (lw_sI (lw_sI hM29)))))) (ra_108_10 (lw_sI (lw_sI (lw_sI (lw_sI (lw_sI hM29)))))) rfl ?_
          refine iq_iconst hS 233 J_MSquareRows_make_d232 (v := 4) (by decide +kernel) rfl ?_
          refine iq_aload_n hS 234 J_MSquareRows_make_d233 l21 rfl ?_
          refine iq_getI hS 237 J_MSquareRows_make_d234 lf_16_127 (Or.inl rfl) (ka_108 (lw_sI (lw_sI (lw_sI (lw_sI (lw_sI hM29)))))) rfl ?_
          obtain ⟨g237, h⟩ := ed_gd h
          refine iq_iastore hS 238 J_MSquareRows_make_d237 ⟨(ka_114 (lw_sI (lw_sI (lw_sI (lw_sI (lw_sI hM29)))))).1, (ka_114 (lw_sI (lw_sI (lw_sI (lw_sI (lw_sI hM29)))))).2, g237.1, ix_lt (kl_114 (lw_sI (lw_sI (lw_sI (lw_sI (lw_sI hM29)))))) g237.2⟩ rfl ?_
          refine iq_aload_n hS 239 J_MSquareRows_make_d238 l21 rfl ?_
          refine iq_getR hS 242 J_MSquareRows_make_d239 lf_16_25 (Or.inr ⟨_, rfl⟩) (ka_108 (lw_sI (lw_sI (lw_sI (lw_sI (lw_sI (lw_sI hM29))))))) (ra_108_10 (lw_sI (lw_sI (lw_sI (lw_sI (lw_sI (lw_sI hM29))))))) rfl ?_
          refine iq_iconst hS 243 J_MSquareRows_make_d242 (v := 5) (by decide +kernel) rfl ?_
          refine iq_aload_n hS 244 J_MSquareRows_make_d243 l21 rfl ?_
          refine iq_getI hS 247 J_MSquareRows_make_d244 lf_16_121 (Or.inl rfl) (ka_108 (lw_sI (lw_sI (lw_sI (lw_sI (lw_sI (lw_sI hM29))))))) rfl ?_
          obtain ⟨g247, h⟩ := ed_gd h
          refine iq_iastore hS 248 J_MSquareRows_make_d247 ⟨(ka_114 (lw_sI (lw_sI (lw_sI (lw_sI (lw_sI (lw_sI hM29))))))).1, (ka_114 (lw_sI (lw_sI (lw_sI (lw_sI (lw_sI (lw_sI hM29))))))).2, g247.1, ix_lt (kl_114 (lw_sI (lw_sI (lw_sI (lw_sI (lw_sI (lw_sI hM29))))))) g247.2⟩ rfl ?_
          refine iq_iload hS 250 J_MSquareRows_make_d248 l23 rfl ?_
          exact iq_iret J_MSquareRows_make_d250 rfl rfl ⟨_, rfl, (lw_sI (lw_sI (lw_sI (lw_sI (lw_sI (lw_sI (lw_sI hM29))))))), ed_some h⟩
        obtain ⟨r17, hr17, hq17⟩ := h
        obtain ⟨n17, hn17⟩ := lp_n hr17
        have I17 : ∀ (n : Nat) (x30 : Int32) (x31 : Int32) (x32 : Int32) (M33 : im_M) (L' : List (Nat × Value)), lw_S w M33 → im_lk L' 0 = some (.ref 108) → im_lk L' 1 = some (.int p0) → im_lk L' 3 = some (.int p2) → im_lk L' 4 = some (.int x12) → im_lk L' 5 = some (.int x16) → im_lk L' 6 = some (.int x30) → im_lk L' 7 = some (.int x31) → im_lk L' 8 = some (.int x32) → lpn (uc4 (f_MSquareRows_make_L105 p0 p2 x12 x16)) n (x30, x31, x32, M33) = some r17 → ia (tb_G L xs) (dep + 8) J_MSquareRows_make (rwI w Q) (105, L', [], M33) := by
          intro n
          induction n with
          | zero => intro x30 x31 x32 M33 L' hM33 l34 l35 l36 l37 l38 l39 l40 l41 hn; exact (lpn_0 hn).elim
          | succ n ih =>
            intro x30 x31 x32 M33 L' hM33 l34 l35 l36 l37 l38 l39 l40 l41 hn
            have h := lpn_ed4 hn
            unfold f_MSquareRows_make_L105 at h
            refine iq_iload hS 107 J_MSquareRows_make_d105 l41 rfl ?_
            refine iq_bipush hS 109 J_MSquareRows_make_d107 (v := 8) (by decide +kernel) rfl ?_
            refine iq_icmp_ge hS 112 J_MSquareRows_make_d109 (t := 173) rfl (fun q109 => ?_) rfl (fun q109 => ?_)
            · replace h := ed_pos q109 h
              exact K17 _ _ _ _ hM33 l34 l35 l37 l38 l39 l40 (lq_r h hq17)
            · replace h := ed_neg q109 h
              refine iq_iload_n hS 113 J_MSquareRows_make_d112 l36 rfl ?_
              obtain ⟨Q42, hQ42, h⟩ := bd3_ed h
              have J42 : ∀ (y64 : Int32) (y65 : Int32) (M66 : im_M) (L' : List (Nat × Value)), lw_S w M66 → im_lk L' 0 = some (.ref 108) → im_lk L' 1 = some (.int p0) → im_lk L' 3 = some (.int p2) → im_lk L' 4 = some (.int x12) → im_lk L' 5 = some (.int x16) → im_lk L' 6 = some (.int y64) → im_lk L' 7 = some (.int y65) → im_lk L' 8 = some (.int x32) → Q42 (y64, y65, M66) → ia (tb_G L xs) (dep + 8) J_MSquareRows_make (rwI w Q) (167, L', [], M66) := by
                intro y64 y65 M66 L' hM66 l67 l68 l69 l70 l71 l72 l73 l74 h
                replace h := hQ42 _ _ _ h
                refine iq_iincv hS 170 J_MSquareRows_make_d167 (c := 1) (by decide +kernel) l74 (by decide) rfl ?_
                refine iq_goto hS J_MSquareRows_make_d170 (t := 105) rfl ?_
                exact ih _ _ _ _ _ hM66 (lk_1r l67 (by decide)) (lk_1i l68 (by decide)) (lk_1i l69 (by decide)) (lk_1i l70 (by decide)) (lk_1i l71 (by decide)) (lk_1i l72 (by decide)) (lk_1i l73 (by decide)) lk_1s (lq_l h)
              obtain ⟨k43, Q43, hQ43, hk43, h⟩ := jn0_ed h
              have J43 : ∀  (L' : List (Nat × Value)), im_lk L' 0 = some (.ref 108) → im_lk L' 1 = some (.int p0) → im_lk L' 3 = some (.int p2) → im_lk L' 4 = some (.int x12) → im_lk L' 5 = some (.int x16) → im_lk L' 6 = some (.int x30) → im_lk L' 7 = some (.int x31) → im_lk L' 8 = some (.int x32) → Q43 () → ia (tb_G L xs) (dep + 8) J_MSquareRows_make (rwI w Q) (122, L', [], M33) := by
                intro  L' l44 l45 l46 l47 l48 l49 l50 l51 h
                replace h := hQ43  h
                refine iq_aload_n hS 123 J_MSquareRows_make_d122 l44 rfl ?_
                refine iq_iload_n hS 124 J_MSquareRows_make_d123 l45 rfl ?_
                refine iq_iload hS 126 J_MSquareRows_make_d124 l51 rfl ?_
                obtain ⟨Q52, hQ52, h⟩ := bd1_ed h
                refine iq_cpI hS 129 J_MSquareRows_make_d126 rfl (pr_stat (vs := [_, _]) lc_16_235 lT_427 rfl rfl (by decide) rfl (Nat.le_of_ble_eq_true rfl) (Nat.le_of_ble_eq_true rfl)) (f_MSquareRows_formNumber_ok (dep := dep + 7) hM33 h) rfl ?_
                intro x52 h
                replace h := hQ52 _ h
                obtain ⟨Q53, hQ53, h⟩ := bd1_ed h
                refine iq_cwV hS 132 J_MSquareRows_make_d129 rfl (pr_inst (vs := [_]) lc_16_199 lT_422 rfl rfl (by decide) (by decide) rfl (Nat.le_of_ble_eq_true rfl) (Nat.le_of_ble_eq_true rfl) (fun _ => Or.inl (pr_b (ka_108 hM33) (by decide) rfl))) (f_MSquareRows_layForm_ok (dep := dep + 5) hM33 h) rfl ?_
                intro M53 hM53 h
                replace h := hQ53 _ h
                refine iq_aload_n hS 133 J_MSquareRows_make_d132 l44 rfl ?_
                refine iq_iload hS 135 J_MSquareRows_make_d133 l51 rfl ?_
                refine iq_iconst hS 136 J_MSquareRows_make_d135 (v := 0) (by decide +kernel) rfl ?_
                refine iq_iload hS 138 J_MSquareRows_make_d136 l48 rfl ?_
                obtain ⟨Q54, hQ54, h⟩ := bd1_ed h
                refine iq_cwV hS 141 J_MSquareRows_make_d138 rfl (pr_inst (vs := [_, _, _]) lc_16_238 lT_428 rfl rfl (by decide) (by decide) rfl (Nat.le_of_ble_eq_true rfl) (Nat.le_of_ble_eq_true rfl) (fun _ => Or.inl (pr_b (ka_108 hM53) (by decide) rfl))) (f_MSquareRows_goThrough_ok (dep := dep + 6) hM53 h) rfl ?_
                intro M54 hM54 h
                replace h := hQ54 _ h
                refine iq_aload_n hS 142 J_MSquareRows_make_d141 l44 rfl ?_
                obtain ⟨Q55, hQ55, h⟩ := bd1_ed h
                refine iq_cpI hS 145 J_MSquareRows_make_d142 rfl (pr_inst (vs := []) lc_16_242 lT_430 rfl rfl (by decide) (by decide) rfl (Nat.le_of_ble_eq_true rfl) (Nat.le_of_ble_eq_true rfl) (fun _ => Or.inl (pr_b (ka_108 hM54) (by decide) rfl))) (f_MSquareRows_penalty_ok (dep := dep + 5) hM54 h) rfl ?_
                intro x55 h
                replace h := hQ55 _ h
                refine iq_istore hS 147 J_MSquareRows_make_d145 (by decide) rfl ?_
                refine iq_iload hS 149 J_MSquareRows_make_d147 (lk_1i l50 (by decide)) rfl ?_
                obtain ⟨k56, Q56, hQ56, hk56, h⟩ := jn0_ed h
                have J56 : ∀  (L' : List (Nat × Value)), im_lk L' 0 = some (.ref 108) → im_lk L' 1 = some (.int p0) → im_lk L' 3 = some (.int p2) → im_lk L' 4 = some (.int x12) → im_lk L' 5 = some (.int x16) → im_lk L' 8 = some (.int x32) → im_lk L' 9 = some (.int x55) → Q56 () → ia (tb_G L xs) (dep + 8) J_MSquareRows_make (rwI w Q) (159, L', [], M54) := by
                  intro  L' l57 l58 l59 l60 l61 l62 l63 h
                  replace h := hQ56  h
                  refine iq_iload hS 161 J_MSquareRows_make_d159 l63 rfl ?_
                  refine iq_istore hS 163 J_MSquareRows_make_d161 (by decide) rfl ?_
                  refine iq_iload hS 165 J_MSquareRows_make_d163 (lk_1i l62 (by decide)) rfl ?_
                  refine iq_istore hS 167 J_MSquareRows_make_d165 (by decide) rfl ?_
                  exact J42 _ _ _ _ hM54 (lk_1r (lk_1r l57 (by decide)) (by decide)) (lk_1i (lk_1i l58 (by decide)) (by decide)) (lk_1i (lk_1i l59 (by decide)) (by decide)) (lk_1i (lk_1i l60 (by decide)) (by decide)) (lk_1i (lk_1i l61 (by decide)) (by decide)) lk_1s (lk_1i lk_1s (by decide)) (lk_1i (lk_1i l62 (by decide)) (by decide)) (ed_some h)
                refine iq_if_lt hS 152 J_MSquareRows_make_d149 (t := 159) rfl (fun q149 => ?_) rfl (fun q149 => ?_)
                · replace h := ed_pos q149 h
                  exact J56  _ (lk_1r l44 (by decide)) (lk_1i l45 (by decide)) (lk_1i l46 (by decide)) (lk_1i l47 (by decide)) (lk_1i l48 (by decide)) (lk_1i l51 (by decide)) lk_1s (hk56  h)
                · replace h := ed_neg q149 h
                  refine iq_iload hS 154 J_MSquareRows_make_d152 lk_1s rfl ?_
                  refine iq_iload hS 156 J_MSquareRows_make_d154 (lk_1i l50 (by decide)) rfl ?_
                  refine iq_icmp_ge hS 159 J_MSquareRows_make_d156 (t := 167) rfl (fun q156 => ?_) rfl (fun q156 => ?_)
                  · replace h := ed_pos q156 h
                    exact J42 _ _ _ _ hM54 (lk_1r l44 (by decide)) (lk_1i l45 (by decide)) (lk_1i l46 (by decide)) (lk_1i l47 (by decide)) (lk_1i l48 (by decide)) (lk_1i l49 (by decide)) (lk_1i l50 (by decide)) (lk_1i l51 (by decide)) (ed_some h)
                  · replace h := ed_neg q156 h
                    exact J56  _ (lk_1r l44 (by decide)) (lk_1i l45 (by decide)) (lk_1i l46 (by decide)) (lk_1i l47 (by decide)) (lk_1i l48 (by decide)) (lk_1i l51 (by decide)) lk_1s (hk56  h)
              refine iq_if_lt hS 116 J_MSquareRows_make_d113 (t := 122) rfl (fun q113 => ?_) rfl (fun q113 => ?_)
              · replace h := ed_pos q113 h
                exact J43  _ l34 l35 l36 l37 l38 l39 l40 l41 (hk43  h)
              · replace h := ed_neg q113 h
                refine iq_iload_n hS 117 J_MSquareRows_make_d116 l36 rfl ?_
                refine iq_iload hS 119 J_MSquareRows_make_d117 l41 rfl ?_
                refine iq_icmp_ne hS 122 J_MSquareRows_make_d119 (t := 167) rfl (fun q119 => ?_) rfl (fun q119 => ?_)
                · replace h := ed_pos q119 h
                  exact J42 _ _ _ _ hM33 l34 l35 l36 l37 l38 l39 l40 l41 (ed_some h)
                · replace h := ed_neg q119 h
                  exact J43  _ l34 l35 l36 l37 l38 l39 l40 l41 (hk43  h)
        exact I17 n17 _ _ _ _ _ hM15 (lk_1r (lk_1r (lk_1r (lk_1r (lk_1r l8 (by decide)) (by decide)) (by decide)) (by decide)) (by decide)) (lk_1i (lk_1i (lk_1i (lk_1i (lk_1i l9 (by decide)) (by decide)) (by decide)) (by decide)) (by decide)) (lk_1i (lk_1i (lk_1i (lk_1i (lk_1i l11 (by decide)) (by decide)) (by decide)) (by decide)) (by decide)) (lk_1i (lk_1i (lk_1i (lk_1i lk_1s (by decide)) (by decide)) (by decide)) (by decide)) (lk_1i (lk_1i (lk_1i lk_1s (by decide)) (by decide)) (by decide)) (lk_1i (lk_1i lk_1s (by decide)) (by decide)) (lk_1i lk_1s (by decide)) lk_1s hn17
      · replace h := ed_neg q58 h
        refine iq_iconst hS 62 J_MSquareRows_make_d61 (v := (-1)) (by decide +kernel) rfl ?_
        exact iq_iret J_MSquareRows_make_d62 rfl rfl ⟨_, rfl, hM12, ed_some h⟩
    · replace h := ed_neg q43 h
      refine iq_iconst hS 47 J_MSquareRows_make_d46 (v := 0) (by decide +kernel) rfl ?_
      exact iq_iret J_MSquareRows_make_d47 rfl rfl ⟨_, rfl, (lw_sI hM), ed_some h⟩
  obtain ⟨k2, Q2, hQ2, hk2, h⟩ := jn0_ed h
  have J2 : ∀  (L' : List (Nat × Value)), im_lk L' 0 = some (.ref 108) → im_lk L' 1 = some (.int p0) → im_lk L' 2 = some (.int p1) → im_lk L' 3 = some (.int p2) → Q2 () → ia (tb_G L xs) (dep + 8) J_MSquareRows_make (rwI w Q) (31, L', [.ref 108], M) := by
    intro  L' l3 l4 l5 l6 h
    replace h := hQ2  h
    refine iq_iconst hS 32 J_MSquareRows_make_d31 (v := 1) (by decide +kernel) rfl ?_
    refine iq_goto hS J_MSquareRows_make_d32 (t := 36) rfl ?_
    exact J1 _ _ l3 l4 l5 l6 (ed_some h)
  refine iq_if_lt hS 5 J_MSquareRows_make_d2 (t := 31) rfl (fun q2 => ?_) rfl (fun q2 => ?_)
  · replace h := ed_pos q2 h
    exact J2  _ l0 l1 l2 l3 (hk2  h)
  · replace h := ed_neg q2 h
    refine iq_iload_n hS 6 J_MSquareRows_make_d5 l1 rfl ?_
    refine iq_iconst hS 7 J_MSquareRows_make_d6 (v := 3) (by decide +kernel) rfl ?_
    refine iq_icmp_gt hS 10 J_MSquareRows_make_d7 (t := 31) rfl (fun q7 => ?_) rfl (fun q7 => ?_)
    · replace h := ed_pos q7 h
      exact J2  _ l0 l1 l2 l3 (hk2  h)
    · replace h := ed_neg q7 h
      refine iq_iload_n hS 11 J_MSquareRows_make_d10 l2 rfl ?_
      refine iq_if_lt hS 14 J_MSquareRows_make_d11 (t := 31) rfl (fun q11 => ?_) rfl (fun q11 => ?_)
      · replace h := ed_pos q11 h
        exact J2  _ l0 l1 l2 l3 (hk2  h)
      · replace h := ed_neg q11 h
        refine iq_iload_n hS 15 J_MSquareRows_make_d14 l2 rfl ?_
        refine iq_bipush hS 17 J_MSquareRows_make_d15 (v := 40) (by decide +kernel) rfl ?_
        refine iq_icmp_gt hS 20 J_MSquareRows_make_d17 (t := 31) rfl (fun q17 => ?_) rfl (fun q17 => ?_)
        · replace h := ed_pos q17 h
          exact J2  _ l0 l1 l2 l3 (hk2  h)
        · replace h := ed_neg q17 h
          refine iq_iload_n hS 21 J_MSquareRows_make_d20 l3 rfl ?_
          refine iq_iconst hS 22 J_MSquareRows_make_d21 (v := (-1)) (by decide +kernel) rfl ?_
          refine iq_icmp_lt hS 25 J_MSquareRows_make_d22 (t := 31) rfl (fun q22 => ?_) rfl (fun q22 => ?_)
          · replace h := ed_pos q22 h
            exact J2  _ l0 l1 l2 l3 (hk2  h)
          · replace h := ed_neg q22 h
            refine iq_iload_n hS 26 J_MSquareRows_make_d25 l3 rfl ?_
            refine iq_bipush hS 28 J_MSquareRows_make_d26 (v := 7) (by decide +kernel) rfl ?_
            refine iq_icmp_le hS 31 J_MSquareRows_make_d28 (t := 35) rfl (fun q28 => ?_) rfl (fun q28 => ?_)
            · replace h := ed_pos q28 h
              refine iq_iconst hS 36 J_MSquareRows_make_d35 (v := 0) (by decide +kernel) rfl ?_
              exact J1 _ _ l0 l1 l2 l3 (ed_some h)
            · replace h := ed_neg q28 h
              exact J2  _ l0 l1 l2 l3 (hk2  h)
theorem f_MSquareRows_make_fr {p0 : Int32} {p1 : Int32} {p2 : Int32} {M : im_M} {r : Int32 × im_M} (h : f_MSquareRows_make p0 p1 p2 M = some r) : fr 175452903146750360395674001460676263936 [(108, 0), (108, 7), (108, 8), (108, 9), (108, 13), (108, 16), (108, 19)] M r.2 := by
  replace h : ed (f_MSquareRows_make p0 p1 p2 M) (fun x => x = r) := ⟨r, h, rfl⟩
  unfold f_MSquareRows_make at h
  obtain ⟨Q1, hQ1, h⟩ := bd1_ed h
  have J1 : ∀ (y7 : Int32), Q1 y7 → fr 175452903146750360395674001460676263936 [(108, 0), (108, 7), (108, 8), (108, 9), (108, 13), (108, 16), (108, 19)] M r.2 := by
    intro y7 h
    replace h := hQ1 _ h
    by_cases q43 : (im_i (im_setI M 108 0 y7) 108 0) ≤ 0
    · replace h := ed_pos q43 h
      obtain ⟨Q12, hQ12, h⟩ := bd2_ed h
      obtain ⟨⟨x12, M12⟩, e12, h⟩ := h
      replace h := hQ12 _ _ h
      by_cases q58 : 0 ≤ x12
      · replace h := ed_pos q58 h
        obtain ⟨Q13, hQ13, h⟩ := bd1_ed h
        obtain ⟨M13, e13, h⟩ := h
        replace h := hQ13 _ h
        obtain ⟨Q14, hQ14, h⟩ := bd1_ed h
        obtain ⟨M14, e14, h⟩ := h
        replace h := hQ14 _ h
        obtain ⟨Q15, hQ15, h⟩ := bd1_ed h
        obtain ⟨M15, e15, h⟩ := h
        replace h := hQ15 _ h
        obtain ⟨Q16, hQ16, h⟩ := bd1_ed h
        obtain ⟨x16, e16, h⟩ := h
        replace h := hQ16 _ h
        obtain ⟨Q17, hQ17, h⟩ := bd3_ed h
        have K17 : ∀ (y18 : Int32) (y19 : Int32) (M20 : im_M), fr 175452903146750360395674001460676263936 [(108, 0), (108, 7), (108, 8), (108, 9), (108, 13), (108, 16), (108, 19)] M M20 → Q17 (y18, y19, M20) → fr 175452903146750360395674001460676263936 [(108, 0), (108, 7), (108, 8), (108, 9), (108, 13), (108, 16), (108, 19)] M r.2 := by
          intro y18 y19 M20 hM20 h
          replace h := hQ17 _ _ _ h
          obtain ⟨Q21, hQ21, h⟩ := bd1_ed h
          obtain ⟨x21, e21, h⟩ := h
          replace h := hQ21 _ h
          obtain ⟨Q22, hQ22, h⟩ := bd1_ed h
          obtain ⟨M22, e22, h⟩ := h
          replace h := hQ22 _ h
          obtain ⟨Q23, hQ23, h⟩ := bd1_ed h
          obtain ⟨M23, e23, h⟩ := h
          replace h := hQ23 _ h
          obtain ⟨g204, h⟩ := ed_gd h
          obtain ⟨g211, h⟩ := ed_gd h
          obtain ⟨g219, h⟩ := ed_gd h
          obtain ⟨g227, h⟩ := ed_gd h
          obtain ⟨g237, h⟩ := ed_gd h
          obtain ⟨g247, h⟩ := ed_gd h
          exact fr_ret h (fr_I (by decide) (fr_I (by decide) (fr_I (by decide) (fr_I (by decide) (fr_I (by decide) (fr_I (by decide) (fr_F (by decide) (fr_tr (fr_mono (by decide) (by decide +kernel) (f_MSquareRows_goThrough_fr e23)) (fr_tr (fr_mono (by decide) (by decide +kernel) (f_MSquareRows_layForm_fr e22)) hM20)))))))))
        obtain ⟨r17, hr17, hq17⟩ := h
        obtain ⟨n17, hn17⟩ := lp_n hr17
        have I17 : ∀ (n : Nat) (x24 : Int32) (x25 : Int32) (x26 : Int32) (M27 : im_M), fr 175452903146750360395674001460676263936 [(108, 0), (108, 7), (108, 8), (108, 9), (108, 13), (108, 16), (108, 19)] M M27 → lpn (uc4 (f_MSquareRows_make_L105 p0 p2 x12 x16)) n (x24, x25, x26, M27) = some r17 → fr 175452903146750360395674001460676263936 [(108, 0), (108, 7), (108, 8), (108, 9), (108, 13), (108, 16), (108, 19)] M r.2 := by
          intro n
          induction n with
          | zero => intro x24 x25 x26 M27 hM27 hn; exact (lpn_0 hn).elim
          | succ n ih =>
            intro x24 x25 x26 M27 hM27 hn
            have h := lpn_ed4 hn
            unfold f_MSquareRows_make_L105 at h
            by_cases q109 : 8 ≤ x26
            · replace h := ed_pos q109 h
              exact K17 _ _ _ hM27 (lq_r h hq17)
            · replace h := ed_neg q109 h
              obtain ⟨Q28, hQ28, h⟩ := bd3_ed h
              have J28 : ∀ (y50 : Int32) (y51 : Int32) (M52 : im_M), fr 175452903146750360395674001460676263936 [(108, 0), (108, 7), (108, 8), (108, 9), (108, 13), (108, 16), (108, 19)] M M52 → Q28 (y50, y51, M52) → fr 175452903146750360395674001460676263936 [(108, 0), (108, 7), (108, 8), (108, 9), (108, 13), (108, 16), (108, 19)] M r.2 := by
                intro y50 y51 M52 hM52 h
                replace h := hQ28 _ _ _ h
                exact ih _ _ _ _ hM52 (lq_l h)
              obtain ⟨k29, Q29, hQ29, hk29, h⟩ := jn0_ed h
              have J29 : Q29 () → fr 175452903146750360395674001460676263936 [(108, 0), (108, 7), (108, 8), (108, 9), (108, 13), (108, 16), (108, 19)] M r.2 := by
                intro  h
                replace h := hQ29  h
                obtain ⟨Q38, hQ38, h⟩ := bd1_ed h
                obtain ⟨x38, e38, h⟩ := h
                replace h := hQ38 _ h
                obtain ⟨Q39, hQ39, h⟩ := bd1_ed h
                obtain ⟨M39, e39, h⟩ := h
                replace h := hQ39 _ h
                obtain ⟨Q40, hQ40, h⟩ := bd1_ed h
                obtain ⟨M40, e40, h⟩ := h
                replace h := hQ40 _ h
                obtain ⟨Q41, hQ41, h⟩ := bd1_ed h
                obtain ⟨x41, e41, h⟩ := h
                replace h := hQ41 _ h
                obtain ⟨k42, Q42, hQ42, hk42, h⟩ := jn0_ed h
                have J42 : Q42 () → fr 175452903146750360395674001460676263936 [(108, 0), (108, 7), (108, 8), (108, 9), (108, 13), (108, 16), (108, 19)] M r.2 := by
                  intro  h
                  replace h := hQ42  h
                  exact J28 _ _ _ (fr_tr (fr_mono (by decide) (by decide +kernel) (f_MSquareRows_goThrough_fr e40)) (fr_tr (fr_mono (by decide) (by decide +kernel) (f_MSquareRows_layForm_fr e39)) hM27)) (ed_some h)
                by_cases q149 : x25 < 0
                · replace h := ed_pos q149 h
                  exact J42  (hk42  h)
                · replace h := ed_neg q149 h
                  by_cases q156 : x25 ≤ x41
                  · replace h := ed_pos q156 h
                    exact J28 _ _ _ (fr_tr (fr_mono (by decide) (by decide +kernel) (f_MSquareRows_goThrough_fr e40)) (fr_tr (fr_mono (by decide) (by decide +kernel) (f_MSquareRows_layForm_fr e39)) hM27)) (ed_some h)
                  · replace h := ed_neg q156 h
                    exact J42  (hk42  h)
              by_cases q113 : p2 < 0
              · replace h := ed_pos q113 h
                exact J29  (hk29  h)
              · replace h := ed_neg q113 h
                by_cases q119 : ¬ p2 = x26
                · replace h := ed_pos q119 h
                  exact J28 _ _ _ hM27 (ed_some h)
                · replace h := ed_neg q119 h
                  exact J29  (hk29  h)
        exact I17 n17 _ _ _ _ (fr_tr (fr_mono (by decide) (by decide +kernel) (f_MSquareRows_frame_fr e15)) (fr_F (by decide) (fr_tr (fr_mono (by decide) (by decide +kernel) (f_MSquareRows_check_fr e14)) (fr_tr (fr_mono (by decide) (by decide +kernel) (f_MSquareRows_layAll_fr e13)) (fr_tr (fr_mono (by decide) (by decide +kernel) (f_MSquareRows_versionFor_fr e12)) (fr_F (by decide) fr_refl)))))) hn17
      · replace h := ed_neg q58 h
        exact fr_ret h (fr_tr (fr_mono (by decide) (by decide +kernel) (f_MSquareRows_versionFor_fr e12)) (fr_F (by decide) fr_refl))
    · replace h := ed_neg q43 h
      exact fr_ret h (fr_F (by decide) fr_refl)
  obtain ⟨k2, Q2, hQ2, hk2, h⟩ := jn0_ed h
  have J2 : Q2 () → fr 175452903146750360395674001460676263936 [(108, 0), (108, 7), (108, 8), (108, 9), (108, 13), (108, 16), (108, 19)] M r.2 := by
    intro  h
    replace h := hQ2  h
    exact J1 _ (ed_some h)
  by_cases q2 : p0 < 0
  · replace h := ed_pos q2 h
    exact J2  (hk2  h)
  · replace h := ed_neg q2 h
    by_cases q7 : 3 < p0
    · replace h := ed_pos q7 h
      exact J2  (hk2  h)
    · replace h := ed_neg q7 h
      by_cases q11 : p1 < 0
      · replace h := ed_pos q11 h
        exact J2  (hk2  h)
      · replace h := ed_neg q11 h
        by_cases q17 : 40 < p1
        · replace h := ed_pos q17 h
          exact J2  (hk2  h)
        · replace h := ed_neg q17 h
          by_cases q22 : p2 < (-1)
          · replace h := ed_pos q22 h
            exact J2  (hk2  h)
          · replace h := ed_neg q22 h
            by_cases q28 : p2 ≤ 7
            · replace h := ed_pos q28 h
              exact J1 _ (ed_some h)
            · replace h := ed_neg q28 h
              exact J2  (hk2  h)
noncomputable def f_MSquareRows_row_L10 (v2 : Int32) (v3 : Int32) (M6 : im_M) (x4 : Int64) (x5 : Int32) : Option ((Int64 × Int32) ⊕ (Int64)) := if 64 ≤ x5 then some (.inr x4) else bd1 (jn0 (fun (_ : Unit) => some x4) fun k9 => if ((if (im_i M6 108 7) ≤ 0 then 0 else (if v3 < 0 then 0 else (if (im_i M6 108 8) ≤ v3 then 0 else (if (lg_cmp ((Int32.toInt64 v2) + (Int32.toInt64 x5)) 0) < 0 then 0 else (if 0 ≤ (lg_cmp ((Int32.toInt64 v2) + (Int32.toInt64 x5)) (Int32.toInt64 (im_i M6 108 8))) then 0 else 1))))) : Int32) = 0 then k9 () else bd1 (f_MSquareRows_moduleAt (Int64.toInt32 ((Int32.toInt64 v2) + (Int32.toInt64 x5))) v3 M6) fun (x10 : Int32) => gd (inb x10 31329) <| if ¬ (im_i M6 112 (Int32.toNatClampNeg x10)) = 1 then k9 () else some (x4 ||| ((1 : Int64) <<< (Int32.toInt64 x5 &&& 63) : Int64))) fun (y16 : Int64) => some (.inl (y16, (x5 + 1)))
noncomputable def f_MSquareRows_row (p0 : Int32) (p1 : Int32) (M : im_M) : Option (Int64 × im_M) := bd1 (lp (uc2 (f_MSquareRows_row_L10 p0 p1 (im_setI M 108 0 0))) (0, 0)) fun (y21 : Int64) => some (y21, (im_setI M 108 0 0))
theorem J_MSquareRows_row_d0 : decode J_MSquareRows_row.2.1 0 = .ok (.aload_n 0, 1) := by decide +kernel
theorem J_MSquareRows_row_d1 : decode J_MSquareRows_row.2.1 1 = .ok (.iconst 0, 1) := by decide +kernel
theorem J_MSquareRows_row_d2 : decode J_MSquareRows_row.2.1 2 = .ok (.putfield 73, 3) := by decide +kernel
theorem J_MSquareRows_row_d5 : decode J_MSquareRows_row.2.1 5 = .ok (.lconst 0, 1) := by decide +kernel
theorem J_MSquareRows_row_d6 : decode J_MSquareRows_row.2.1 6 = .ok (.lstore_n 3, 1) := by decide +kernel
theorem J_MSquareRows_row_d7 : decode J_MSquareRows_row.2.1 7 = .ok (.iconst 0, 1) := by decide +kernel
theorem J_MSquareRows_row_d8 : decode J_MSquareRows_row.2.1 8 = .ok (.istore 5, 2) := by decide +kernel
theorem J_MSquareRows_row_d10 : decode J_MSquareRows_row.2.1 10 = .ok (.iload 5, 2) := by decide +kernel
theorem J_MSquareRows_row_d12 : decode J_MSquareRows_row.2.1 12 = .ok (.bipush 64, 2) := by decide +kernel
theorem J_MSquareRows_row_d14 : decode J_MSquareRows_row.2.1 14 = .ok (.if_icmp .ge 94, 3) := by decide +kernel
theorem J_MSquareRows_row_d17 : decode J_MSquareRows_row.2.1 17 = .ok (.iload_n 1, 1) := by decide +kernel
theorem J_MSquareRows_row_d18 : decode J_MSquareRows_row.2.1 18 = .ok (.i2l, 1) := by decide +kernel
theorem J_MSquareRows_row_d19 : decode J_MSquareRows_row.2.1 19 = .ok (.iload 5, 2) := by decide +kernel
theorem J_MSquareRows_row_d21 : decode J_MSquareRows_row.2.1 21 = .ok (.i2l, 1) := by decide +kernel
theorem J_MSquareRows_row_d22 : decode J_MSquareRows_row.2.1 22 = .ok (.ladd, 1) := by decide +kernel
theorem J_MSquareRows_row_d23 : decode J_MSquareRows_row.2.1 23 = .ok (.lstore 6, 2) := by decide +kernel
theorem J_MSquareRows_row_d25 : decode J_MSquareRows_row.2.1 25 = .ok (.aload_n 0, 1) := by decide +kernel
theorem J_MSquareRows_row_d26 : decode J_MSquareRows_row.2.1 26 = .ok (.getfield 229, 3) := by decide +kernel
theorem J_MSquareRows_row_d29 : decode J_MSquareRows_row.2.1 29 = .ok (.ifCond .le 37, 3) := by decide +kernel
theorem J_MSquareRows_row_d32 : decode J_MSquareRows_row.2.1 32 = .ok (.iload_n 2, 1) := by decide +kernel
theorem J_MSquareRows_row_d33 : decode J_MSquareRows_row.2.1 33 = .ok (.ifCond .lt 33, 3) := by decide +kernel
theorem J_MSquareRows_row_d36 : decode J_MSquareRows_row.2.1 36 = .ok (.iload_n 2, 1) := by decide +kernel
theorem J_MSquareRows_row_d37 : decode J_MSquareRows_row.2.1 37 = .ok (.aload_n 0, 1) := by decide +kernel
theorem J_MSquareRows_row_d38 : decode J_MSquareRows_row.2.1 38 = .ok (.getfield 163, 3) := by decide +kernel
theorem J_MSquareRows_row_d41 : decode J_MSquareRows_row.2.1 41 = .ok (.if_icmp .ge 25, 3) := by decide +kernel
theorem J_MSquareRows_row_d44 : decode J_MSquareRows_row.2.1 44 = .ok (.lload 6, 2) := by decide +kernel
theorem J_MSquareRows_row_d46 : decode J_MSquareRows_row.2.1 46 = .ok (.lconst 0, 1) := by decide +kernel
theorem J_MSquareRows_row_d47 : decode J_MSquareRows_row.2.1 47 = .ok (.lcmp, 1) := by decide +kernel
theorem J_MSquareRows_row_d48 : decode J_MSquareRows_row.2.1 48 = .ok (.ifCond .lt 18, 3) := by decide +kernel
theorem J_MSquareRows_row_d51 : decode J_MSquareRows_row.2.1 51 = .ok (.lload 6, 2) := by decide +kernel
theorem J_MSquareRows_row_d53 : decode J_MSquareRows_row.2.1 53 = .ok (.aload_n 0, 1) := by decide +kernel
theorem J_MSquareRows_row_d54 : decode J_MSquareRows_row.2.1 54 = .ok (.getfield 163, 3) := by decide +kernel
theorem J_MSquareRows_row_d57 : decode J_MSquareRows_row.2.1 57 = .ok (.i2l, 1) := by decide +kernel
theorem J_MSquareRows_row_d58 : decode J_MSquareRows_row.2.1 58 = .ok (.lcmp, 1) := by decide +kernel
theorem J_MSquareRows_row_d59 : decode J_MSquareRows_row.2.1 59 = .ok (.ifCond .ge 7, 3) := by decide +kernel
theorem J_MSquareRows_row_d62 : decode J_MSquareRows_row.2.1 62 = .ok (.iconst 1, 1) := by decide +kernel
theorem J_MSquareRows_row_d63 : decode J_MSquareRows_row.2.1 63 = .ok (.goto 4, 3) := by decide +kernel
theorem J_MSquareRows_row_d66 : decode J_MSquareRows_row.2.1 66 = .ok (.iconst 0, 1) := by decide +kernel
theorem J_MSquareRows_row_d67 : decode J_MSquareRows_row.2.1 67 = .ok (.istore 8, 2) := by decide +kernel
theorem J_MSquareRows_row_d69 : decode J_MSquareRows_row.2.1 69 = .ok (.iload 8, 2) := by decide +kernel
theorem J_MSquareRows_row_d71 : decode J_MSquareRows_row.2.1 71 = .ok (.ifCond .eq 29, 3) := by decide +kernel
theorem J_MSquareRows_row_d74 : decode J_MSquareRows_row.2.1 74 = .ok (.aload_n 0, 1) := by decide +kernel
theorem J_MSquareRows_row_d75 : decode J_MSquareRows_row.2.1 75 = .ok (.getfield 19, 3) := by decide +kernel
theorem J_MSquareRows_row_d78 : decode J_MSquareRows_row.2.1 78 = .ok (.aload_n 0, 1) := by decide +kernel
theorem J_MSquareRows_row_d79 : decode J_MSquareRows_row.2.1 79 = .ok (.lload 6, 2) := by decide +kernel
theorem J_MSquareRows_row_d81 : decode J_MSquareRows_row.2.1 81 = .ok (.l2i, 1) := by decide +kernel
theorem J_MSquareRows_row_d82 : decode J_MSquareRows_row.2.1 82 = .ok (.iload_n 2, 1) := by decide +kernel
theorem J_MSquareRows_row_d83 : decode J_MSquareRows_row.2.1 83 = .ok (.invokevirtual 166, 3) := by decide +kernel
theorem J_MSquareRows_row_d86 : decode J_MSquareRows_row.2.1 86 = .ok (.iaload, 1) := by decide +kernel
theorem J_MSquareRows_row_d87 : decode J_MSquareRows_row.2.1 87 = .ok (.iconst 1, 1) := by decide +kernel
theorem J_MSquareRows_row_d88 : decode J_MSquareRows_row.2.1 88 = .ok (.if_icmp .ne 12, 3) := by decide +kernel
theorem J_MSquareRows_row_d91 : decode J_MSquareRows_row.2.1 91 = .ok (.lload_n 3, 1) := by decide +kernel
theorem J_MSquareRows_row_d92 : decode J_MSquareRows_row.2.1 92 = .ok (.lconst 1, 1) := by decide +kernel
theorem J_MSquareRows_row_d93 : decode J_MSquareRows_row.2.1 93 = .ok (.iload 5, 2) := by decide +kernel
theorem J_MSquareRows_row_d95 : decode J_MSquareRows_row.2.1 95 = .ok (.lshl, 1) := by decide +kernel
theorem J_MSquareRows_row_d96 : decode J_MSquareRows_row.2.1 96 = .ok (.lor, 1) := by decide +kernel
theorem J_MSquareRows_row_d97 : decode J_MSquareRows_row.2.1 97 = .ok (.goto 4, 3) := by decide +kernel
theorem J_MSquareRows_row_d100 : decode J_MSquareRows_row.2.1 100 = .ok (.lload_n 3, 1) := by decide +kernel
theorem J_MSquareRows_row_d101 : decode J_MSquareRows_row.2.1 101 = .ok (.lstore_n 3, 1) := by decide +kernel
theorem J_MSquareRows_row_d102 : decode J_MSquareRows_row.2.1 102 = .ok (.iinc 5 1, 3) := by decide +kernel
theorem J_MSquareRows_row_d105 : decode J_MSquareRows_row.2.1 105 = .ok (.goto (-95), 3) := by decide +kernel
theorem J_MSquareRows_row_d108 : decode J_MSquareRows_row.2.1 108 = .ok (.lload_n 3, 1) := by decide +kernel
theorem J_MSquareRows_row_d109 : decode J_MSquareRows_row.2.1 109 = .ok (.lreturn, 1) := by decide +kernel
theorem f_MSquareRows_row_ok {L : Nat} {xs : Nat → Int32} {dep : Nat} {w : Bool} {p0 : Int32} {p1 : Int32} {M : im_M} {Q : Int64 × im_M → Prop} (hM : lw_S w M) (h : ed (f_MSquareRows_row p0 p1 M) Q) : ia (tb_G L xs) (dep + 1) J_MSquareRows_row (rwL w Q) (0, lv_args 0 [.ref 108, .int p0, .int p1], [], M) := by
  have hS : im_St (tb_G L xs) (dep + 1) J_MSquareRows_row (ia (tb_G L xs) (dep + 1) J_MSquareRows_row (rwL w Q)) := ia_St
  unfold f_MSquareRows_row at h
  have l0 : im_lk (lv_args 0 [.ref 108, .int p0, .int p1]) 0 = some (.ref 108) := rfl
  have l1 : im_lk (lv_args 0 [.ref 108, .int p0, .int p1]) 1 = some (.int p0) := rfl
  have l2 : im_lk (lv_args 0 [.ref 108, .int p0, .int p1]) 2 = some (.int p1) := rfl
  refine iq_aload_n hS 1 J_MSquareRows_row_d0 l0 rfl ?_
  refine iq_iconst hS 2 J_MSquareRows_row_d1 (v := 0) (by decide +kernel) rfl ?_
  refine iq_putI hS 5 J_MSquareRows_row_d2 lf_16_73 (Or.inl rfl) rfl (ka_108 hM) rfl ?_
  refine iq_lconst hS 6 J_MSquareRows_row_d5 (v := 0) (by decide +kernel) rfl ?_
  refine iq_lstore_n hS 7 J_MSquareRows_row_d6 (by decide) rfl ?_
  refine iq_iconst hS 8 J_MSquareRows_row_d7 (v := 0) (by decide +kernel) rfl ?_
  refine iq_istore hS 10 J_MSquareRows_row_d8 (by decide) rfl ?_
  obtain ⟨Q1, hQ1, h⟩ := bd1_ed h
  have K1 : ∀ (y2 : Int64) (L' : List (Nat × Value)), im_lk L' 3 = some (.long y2) → Q1 y2 → ia (tb_G L xs) (dep + 1) J_MSquareRows_row (rwL w Q) (108, L', [], (im_setI M 108 0 0)) := by
    intro y2 L' l3 h
    replace h := hQ1 _ h
    refine iq_lload_n hS 109 J_MSquareRows_row_d108 l3 rfl ?_
    exact iq_lret J_MSquareRows_row_d109 rfl ⟨_, rfl, (lw_sI hM), ed_some h⟩
  obtain ⟨r1, hr1, hq1⟩ := h
  obtain ⟨n1, hn1⟩ := lp_n hr1
  have I1 : ∀ (n : Nat) (x4 : Int64) (x5 : Int32) (L' : List (Nat × Value)), im_lk L' 0 = some (.ref 108) → im_lk L' 1 = some (.int p0) → im_lk L' 2 = some (.int p1) → im_lk L' 3 = some (.long x4) → im_lk L' 5 = some (.int x5) → lpn (uc2 (f_MSquareRows_row_L10 p0 p1 (im_setI M 108 0 0))) n (x4, x5) = some r1 → ia (tb_G L xs) (dep + 1) J_MSquareRows_row (rwL w Q) (10, L', [], (im_setI M 108 0 0)) := by
    intro n
    induction n with
    | zero => intro x4 x5 L' l6 l7 l8 l9 l10 hn; exact (lpn_0 hn).elim
    | succ n ih =>
      intro x4 x5 L' l6 l7 l8 l9 l10 hn
      have h := lpn_ed2 hn
      unfold f_MSquareRows_row_L10 at h
      refine iq_iload hS 12 J_MSquareRows_row_d10 l10 rfl ?_
      refine iq_bipush hS 14 J_MSquareRows_row_d12 (v := 64) (by decide +kernel) rfl ?_
      refine iq_icmp_ge hS 17 J_MSquareRows_row_d14 (t := 108) rfl (fun q14 => ?_) rfl (fun q14 => ?_)
      · replace h := ed_pos q14 h
        exact K1 _ _ l9 (lq_r h hq1)
      · replace h := ed_neg q14 h
        refine iq_iload_n hS 18 J_MSquareRows_row_d17 l7 rfl ?_
        refine iq_i2l hS 19 J_MSquareRows_row_d18 rfl ?_
        refine iq_iload hS 21 J_MSquareRows_row_d19 l10 rfl ?_
        refine iq_i2l hS 22 J_MSquareRows_row_d21 rfl ?_
        refine iq_ladd hS 23 J_MSquareRows_row_d22 rfl ?_
        refine iq_lstore hS 25 J_MSquareRows_row_d23 (by decide) rfl ?_
        refine iq_aload_n hS 26 J_MSquareRows_row_d25 (lk_2r l6 (by decide) (by decide)) rfl ?_
        refine iq_getI hS 29 J_MSquareRows_row_d26 lf_16_229 (Or.inl rfl) (ka_108 (lw_sI hM)) rfl ?_
        have J11 : ∀ (z12 : Int32) (L' : List (Nat × Value)), z12 = ((if (im_i (im_setI M 108 0 0) 108 7) ≤ 0 then 0 else (if p1 < 0 then 0 else (if (im_i (im_setI M 108 0 0) 108 8) ≤ p1 then 0 else (if (lg_cmp ((Int32.toInt64 p0) + (Int32.toInt64 x5)) 0) < 0 then 0 else (if 0 ≤ (lg_cmp ((Int32.toInt64 p0) + (Int32.toInt64 x5)) (Int32.toInt64 (im_i (im_setI M 108 0 0) 108 8))) then 0 else 1))))) : Int32) → im_lk L' 0 = some (.ref 108) → im_lk L' 1 = some (.int p0) → im_lk L' 2 = some (.int p1) → im_lk L' 3 = some (.long x4) → im_lk L' 5 = some (.int x5) → im_lk L' 6 = some (.long ((Int32.toInt64 p0) + (Int32.toInt64 x5))) → ia (tb_G L xs) (dep + 1) J_MSquareRows_row (rwL w Q) (67, L', [.int z12], (im_setI M 108 0 0)) := by
          intro z12 L' e13 l14 l15 l16 l17 l18 l19
          subst e13
          refine iq_istore hS 69 J_MSquareRows_row_d67 (by decide) rfl ?_
          refine iq_iload hS 71 J_MSquareRows_row_d69 lk_1s rfl ?_
          obtain ⟨Q20, hQ20, h⟩ := bd1_ed h
          have J20 : ∀ (y28 : Int64) (L' : List (Nat × Value)), im_lk L' 0 = some (.ref 108) → im_lk L' 1 = some (.int p0) → im_lk L' 2 = some (.int p1) → im_lk L' 5 = some (.int x5) → Q20 y28 → ia (tb_G L xs) (dep + 1) J_MSquareRows_row (rwL w Q) (101, L', [.long y28], (im_setI M 108 0 0)) := by
            intro y28 L' l29 l30 l31 l32 h
            replace h := hQ20 _ h
            refine iq_lstore_n hS 102 J_MSquareRows_row_d101 (by decide) rfl ?_
            refine iq_iincv hS 105 J_MSquareRows_row_d102 (c := 1) (by decide +kernel) (lk_2i l32 (by decide) (by decide)) (by decide) rfl ?_
            refine iq_goto hS J_MSquareRows_row_d105 (t := 10) rfl ?_
            exact ih _ _ _ (lk_1r (lk_2r l29 (by decide) (by decide)) (by decide)) (lk_1i (lk_2i l30 (by decide) (by decide)) (by decide)) (lk_1i (lk_2i l31 (by decide) (by decide)) (by decide)) (lk_1l lk_2s (by decide) (by decide)) lk_1s (lq_l h)
          obtain ⟨k21, Q21, hQ21, hk21, h⟩ := jn0_ed h
          have J21 : ∀  (L' : List (Nat × Value)), im_lk L' 0 = some (.ref 108) → im_lk L' 1 = some (.int p0) → im_lk L' 2 = some (.int p1) → im_lk L' 3 = some (.long x4) → im_lk L' 5 = some (.int x5) → Q21 () → ia (tb_G L xs) (dep + 1) J_MSquareRows_row (rwL w Q) (100, L', [], (im_setI M 108 0 0)) := by
            intro  L' l23 l24 l25 l26 l27 h
            replace h := hQ21  h
            refine iq_lload_n hS 101 J_MSquareRows_row_d100 l26 rfl ?_
            exact J20 _ _ l23 l24 l25 l27 (ed_some h)
          refine iq_if_eq hS 74 J_MSquareRows_row_d71 (t := 100) rfl (fun q71 => ?_) rfl (fun q71 => ?_)
          · replace h := ed_pos q71 h
            exact J21  _ (lk_1r l14 (by decide)) (lk_1i l15 (by decide)) (lk_1i l16 (by decide)) (lk_1l l17 (by decide) (by decide)) (lk_1i l18 (by decide)) (hk21  h)
          · replace h := ed_neg q71 h
            refine iq_aload_n hS 75 J_MSquareRows_row_d74 (lk_1r l14 (by decide)) rfl ?_
            refine iq_getR hS 78 J_MSquareRows_row_d75 lf_16_19 (Or.inr ⟨_, rfl⟩) (ka_108 (lw_sI hM)) (ra_108_5 (lw_sI hM)) rfl ?_
            refine iq_aload_n hS 79 J_MSquareRows_row_d78 (lk_1r l14 (by decide)) rfl ?_
            refine iq_lload hS 81 J_MSquareRows_row_d79 (lk_1l l19 (by decide) (by decide)) rfl ?_
            refine iq_l2i hS 82 J_MSquareRows_row_d81 rfl ?_
            refine iq_iload_n hS 83 J_MSquareRows_row_d82 (lk_1i l16 (by decide)) rfl ?_
            obtain ⟨Q22, hQ22, h⟩ := bd1_ed h
            refine iq_cpI hS 86 J_MSquareRows_row_d83 rfl (pr_inst (vs := [_, _]) lc_16_166 lT_418 rfl rfl (by decide) (by decide) rfl (Nat.le_of_ble_eq_true rfl) (Nat.le_of_ble_eq_true rfl) (fun _ => Or.inl (pr_b (ka_108 (lw_sI hM)) (by decide) rfl))) (f_MSquareRows_moduleAt_ok (dep := dep + 0) (lw_sI hM) h) rfl ?_
            intro x22 h
            replace h := hQ22 _ h
            obtain ⟨g86, h⟩ := ed_gd h
            refine iq_iaload hS 87 J_MSquareRows_row_d86 ⟨(ka_112 (lw_sI hM)).1, (ka_112 (lw_sI hM)).2, g86.1, ix_lt (kl_112 (lw_sI hM)) g86.2⟩ rfl ?_
            refine iq_iconst hS 88 J_MSquareRows_row_d87 (v := 1) (by decide +kernel) rfl ?_
            refine iq_icmp_ne hS 91 J_MSquareRows_row_d88 (t := 100) rfl (fun q88 => ?_) rfl (fun q88 => ?_)
            · replace h := ed_pos q88 h
              exact J21  _ (lk_1r l14 (by decide)) (lk_1i l15 (by decide)) (lk_1i l16 (by decide)) (lk_1l l17 (by decide) (by decide)) (lk_1i l18 (by decide)) (hk21  h)
            · replace h := ed_neg q88 h
              refine iq_lload_n hS 92 J_MSquareRows_row_d91 (lk_1l l17 (by decide) (by decide)) rfl ?_
              refine iq_lconst hS 93 J_MSquareRows_row_d92 (v := 1) (by decide +kernel) rfl ?_
              refine iq_iload hS 95 J_MSquareRows_row_d93 (lk_1i l18 (by decide)) rfl ?_
              refine iq_lshl hS 96 J_MSquareRows_row_d95 rfl ?_
              refine iq_lor hS 97 J_MSquareRows_row_d96 rfl ?_
              refine iq_goto hS J_MSquareRows_row_d97 (t := 101) rfl ?_
              exact J20 _ _ (lk_1r l14 (by decide)) (lk_1i l15 (by decide)) (lk_1i l16 (by decide)) (lk_1i l18 (by decide)) (ed_some h)
        refine iq_if_le hS 32 J_MSquareRows_row_d29 (t := 66) rfl (fun q29 => ?_) rfl (fun q29 => ?_)
        · refine iq_iconst hS 67 J_MSquareRows_row_d66 (v := 0) (by decide +kernel) rfl ?_
          exact J11 _ _ (by simp only [if_pos q29]) (lk_2r l6 (by decide) (by decide)) (lk_2i l7 (by decide) (by decide)) (lk_2i l8 (by decide) (by decide)) (lk_2l l9 (by decide) (by decide) (by decide)) (lk_2i l10 (by decide) (by decide)) lk_2s
        · refine iq_iload_n hS 33 J_MSquareRows_row_d32 (lk_2i l8 (by decide) (by decide)) rfl ?_
          refine iq_if_lt hS 36 J_MSquareRows_row_d33 (t := 66) rfl (fun q33 => ?_) rfl (fun q33 => ?_)
          · refine iq_iconst hS 67 J_MSquareRows_row_d66 (v := 0) (by decide +kernel) rfl ?_
            exact J11 _ _ (by simp only [if_neg q29, if_pos q33]) (lk_2r l6 (by decide) (by decide)) (lk_2i l7 (by decide) (by decide)) (lk_2i l8 (by decide) (by decide)) (lk_2l l9 (by decide) (by decide) (by decide)) (lk_2i l10 (by decide) (by decide)) lk_2s
          · refine iq_iload_n hS 37 J_MSquareRows_row_d36 (lk_2i l8 (by decide) (by decide)) rfl ?_
            refine iq_aload_n hS 38 J_MSquareRows_row_d37 (lk_2r l6 (by decide) (by decide)) rfl ?_
            refine iq_getI hS 41 J_MSquareRows_row_d38 lf_16_163 (Or.inl rfl) (ka_108 (lw_sI hM)) rfl ?_
            refine iq_icmp_ge hS 44 J_MSquareRows_row_d41 (t := 66) rfl (fun q41 => ?_) rfl (fun q41 => ?_)
            · refine iq_iconst hS 67 J_MSquareRows_row_d66 (v := 0) (by decide +kernel) rfl ?_
              exact J11 _ _ (by simp only [if_neg q29, if_neg q33, if_pos q41]) (lk_2r l6 (by decide) (by decide)) (lk_2i l7 (by decide) (by decide)) (lk_2i l8 (by decide) (by decide)) (lk_2l l9 (by decide) (by decide) (by decide)) (lk_2i l10 (by decide) (by decide)) lk_2s
            · refine iq_lload hS 46 J_MSquareRows_row_d44 lk_2s rfl ?_
              refine iq_lconst hS 47 J_MSquareRows_row_d46 (v := 0) (by decide +kernel) rfl ?_
              refine iq_lcmp hS 48 J_MSquareRows_row_d47 rfl ?_
              refine iq_if_lt hS 51 J_MSquareRows_row_d48 (t := 66) rfl (fun q48 => ?_) rfl (fun q48 => ?_)
              · refine iq_iconst hS 67 J_MSquareRows_row_d66 (v := 0) (by decide +kernel) rfl ?_
                exact J11 _ _ (by simp only [if_neg q29, if_neg q33, if_neg q41, if_pos q48]) (lk_2r l6 (by decide) (by decide)) (lk_2i l7 (by decide) (by decide)) (lk_2i l8 (by decide) (by decide)) (lk_2l l9 (by decide) (by decide) (by decide)) (lk_2i l10 (by decide) (by decide)) lk_2s
              · refine iq_lload hS 53 J_MSquareRows_row_d51 lk_2s rfl ?_
                refine iq_aload_n hS 54 J_MSquareRows_row_d53 (lk_2r l6 (by decide) (by decide)) rfl ?_
                refine iq_getI hS 57 J_MSquareRows_row_d54 lf_16_163 (Or.inl rfl) (ka_108 (lw_sI hM)) rfl ?_
                refine iq_i2l hS 58 J_MSquareRows_row_d57 rfl ?_
                refine iq_lcmp hS 59 J_MSquareRows_row_d58 rfl ?_
                refine iq_if_ge hS 62 J_MSquareRows_row_d59 (t := 66) rfl (fun q59 => ?_) rfl (fun q59 => ?_)
                · refine iq_iconst hS 67 J_MSquareRows_row_d66 (v := 0) (by decide +kernel) rfl ?_
                  exact J11 _ _ (by simp only [if_neg q29, if_neg q33, if_neg q41, if_neg q48, if_pos q59]) (lk_2r l6 (by decide) (by decide)) (lk_2i l7 (by decide) (by decide)) (lk_2i l8 (by decide) (by decide)) (lk_2l l9 (by decide) (by decide) (by decide)) (lk_2i l10 (by decide) (by decide)) lk_2s
                · refine iq_iconst hS 63 J_MSquareRows_row_d62 (v := 1) (by decide +kernel) rfl ?_
                  refine iq_goto hS J_MSquareRows_row_d63 (t := 67) rfl ?_
                  exact J11 _ _ (by simp only [if_neg q29, if_neg q33, if_neg q41, if_neg q48, if_neg q59]) (lk_2r l6 (by decide) (by decide)) (lk_2i l7 (by decide) (by decide)) (lk_2i l8 (by decide) (by decide)) (lk_2l l9 (by decide) (by decide) (by decide)) (lk_2i l10 (by decide) (by decide)) lk_2s
  exact I1 n1 _ _ _ (lk_1r (lk_2r l0 (by decide) (by decide)) (by decide)) (lk_1i (lk_2i l1 (by decide) (by decide)) (by decide)) (lk_1i (lk_2i l2 (by decide) (by decide)) (by decide)) (lk_1l lk_2s (by decide) (by decide)) lk_1s hn1
theorem f_MSquareRows_row_fr {p0 : Int32} {p1 : Int32} {M : im_M} {r : Int64 × im_M} (h : f_MSquareRows_row p0 p1 M = some r) : fr 0 [(108, 0)] M r.2 := by
  replace h : ed (f_MSquareRows_row p0 p1 M) (fun x => x = r) := ⟨r, h, rfl⟩
  unfold f_MSquareRows_row at h
  obtain ⟨Q1, hQ1, h⟩ := bd1_ed h
  have K1 : ∀ (y2 : Int64), Q1 y2 → fr 0 [(108, 0)] M r.2 := by
    intro y2 h
    replace h := hQ1 _ h
    exact fr_ret h (fr_F (by decide) fr_refl)
  obtain ⟨r1, hr1, hq1⟩ := h
  obtain ⟨n1, hn1⟩ := lp_n hr1
  have I1 : ∀ (n : Nat) (x3 : Int64) (x4 : Int32), lpn (uc2 (f_MSquareRows_row_L10 p0 p1 (im_setI M 108 0 0))) n (x3, x4) = some r1 → fr 0 [(108, 0)] M r.2 := by
    intro n
    induction n with
    | zero => intro x3 x4 hn; exact (lpn_0 hn).elim
    | succ n ih =>
      intro x3 x4 hn
      have h := lpn_ed2 hn
      unfold f_MSquareRows_row_L10 at h
      by_cases q14 : 64 ≤ x4
      · replace h := ed_pos q14 h
        exact K1 _ (lq_r h hq1)
      · replace h := ed_neg q14 h
        obtain ⟨Q6, hQ6, h⟩ := bd1_ed h
        have J6 : ∀ (y14 : Int64), Q6 y14 → fr 0 [(108, 0)] M r.2 := by
          intro y14 h
          replace h := hQ6 _ h
          exact ih _ _ (lq_l h)
        obtain ⟨k7, Q7, hQ7, hk7, h⟩ := jn0_ed h
        have J7 : Q7 () → fr 0 [(108, 0)] M r.2 := by
          intro  h
          replace h := hQ7  h
          exact J6 _ (ed_some h)
        by_cases q71 : ((if (im_i (im_setI M 108 0 0) 108 7) ≤ 0 then 0 else (if p1 < 0 then 0 else (if (im_i (im_setI M 108 0 0) 108 8) ≤ p1 then 0 else (if (lg_cmp ((Int32.toInt64 p0) + (Int32.toInt64 x4)) 0) < 0 then 0 else (if 0 ≤ (lg_cmp ((Int32.toInt64 p0) + (Int32.toInt64 x4)) (Int32.toInt64 (im_i (im_setI M 108 0 0) 108 8))) then 0 else 1))))) : Int32) = 0
        · replace h := ed_pos q71 h
          exact J7  (hk7  h)
        · replace h := ed_neg q71 h
          obtain ⟨Q8, hQ8, h⟩ := bd1_ed h
          obtain ⟨x8, e8, h⟩ := h
          replace h := hQ8 _ h
          obtain ⟨g86, h⟩ := ed_gd h
          by_cases q88 : ¬ (im_i (im_setI M 108 0 0) 112 (Int32.toNatClampNeg x8)) = 1
          · replace h := ed_pos q88 h
            exact J7  (hk7  h)
          · replace h := ed_neg q88 h
            exact J6 _ (ed_some h)
  exact I1 n1 _ _ hn1
noncomputable def f_M_draftSymbol_L22 (v4 : Int32) (v5 : Int32) (x6 : Int32) (M7 : im_M) : Option ((Int32 × im_M) ⊕ (im_M)) := if v5 ≤ x6 then some (.inr M7) else bd2 (f_M_byteOf v4 x6 M7) fun (x8 : Int32) (M8 : im_M) => bd2 (f_MSquareRows_put 1 (Int32.toInt64 x8) M8) fun (x9 : Int32) (M9 : im_M) => some (.inl ((x6 + 1), M9))
noncomputable def f_M_draftSymbol_L92 (v15 : Int32) (x16 : Int32) (x17 : Int32) (M18 : im_M) : Option ((Int32 × Int32 × im_M) ⊕ (Int32 × im_M)) := if (v15 * v15) ≤ x17 then some (.inr (x16, M18)) else gd (¬ v15 = (0 : Int32)) <| gd (¬ v15 = (0 : Int32)) <| bd2 (f_MSquareRows_row (x17 - x17 / v15 * v15) (x17 / v15) M18) fun (x19 : Int64) (M19 : im_M) => bd2 (if ¬ (x17 - x17 / 8 * 8) = 7 then some ((((2 : Int32) * x16) + (Int64.toInt32 (x19 &&& 1))), M19) else bd1 (f_M_draft (((2 : Int32) * x16) + (Int64.toInt32 (x19 &&& 1))) M19) fun (M21 : im_M) => some (0, M21)) fun (y22 : Int32) (M23 : im_M) => some (.inl (y22, (x17 + 1), M23))
noncomputable def f_M_draftSymbol (p0 : Int32) (M : im_M) : Option (Int32 × im_M) := bd2 (f_MSquareRows_wipe M) fun (x1 : Int32) (M1 : im_M) => bd2 (f_MScriptRows_order p0 8 M1) fun (x2 : Int32) (M2 : im_M) => bd1 (lp (uc2 (f_M_draftSymbol_L22 p0 x2)) (0, M2)) fun (M10 : im_M) => bd2 (f_MScriptRows_order p0 6 M10) fun (x11 : Int32) (M11 : im_M) => bd2 (f_MScriptRows_order p0 7 M11) fun (x12 : Int32) (M12 : im_M) => bd2 (f_MSquareRows_make x11 0 x12 M12) fun (x13 : Int32) (M13 : im_M) => bd2 (lp (uc3 (f_M_draftSymbol_L92 ((17 : Int32) + ((4 : Int32) * x13)))) (0, 0, M13)) fun (y28 : Int32) (M29 : im_M) => bd1 (f_M_draft (y28 <<< (((8 : Int32) - ((((17 : Int32) + ((4 : Int32) * x13)) * ((17 : Int32) + ((4 : Int32) * x13))) - (((17 : Int32) + ((4 : Int32) * x13)) * ((17 : Int32) + ((4 : Int32) * x13))) / 8 * 8)) &&& 31 : Int32) : Int32) M29) fun (M30 : im_M) => some (((17 : Int32) + ((4 : Int32) * x13)), M30)
theorem J_M_draftSymbol_d0 : decode J_M_draftSymbol.2.1 0 = .ok (.aload_n 0, 1) := by decide +kernel
theorem J_M_draftSymbol_d1 : decode J_M_draftSymbol.2.1 1 = .ok (.getfield 37, 3) := by decide +kernel
theorem J_M_draftSymbol_d4 : decode J_M_draftSymbol.2.1 4 = .ok (.invokevirtual 135, 3) := by decide +kernel
theorem J_M_draftSymbol_d7 : decode J_M_draftSymbol.2.1 7 = .ok (.istore_n 2, 1) := by decide +kernel
theorem J_M_draftSymbol_d8 : decode J_M_draftSymbol.2.1 8 = .ok (.aload_n 0, 1) := by decide +kernel
theorem J_M_draftSymbol_d9 : decode J_M_draftSymbol.2.1 9 = .ok (.getfield 16, 3) := by decide +kernel
theorem J_M_draftSymbol_d12 : decode J_M_draftSymbol.2.1 12 = .ok (.iload_n 1, 1) := by decide +kernel
theorem J_M_draftSymbol_d13 : decode J_M_draftSymbol.2.1 13 = .ok (.bipush 8, 2) := by decide +kernel
theorem J_M_draftSymbol_d15 : decode J_M_draftSymbol.2.1 15 = .ok (.invokevirtual 97, 3) := by decide +kernel
theorem J_M_draftSymbol_d18 : decode J_M_draftSymbol.2.1 18 = .ok (.istore_n 3, 1) := by decide +kernel
theorem J_M_draftSymbol_d19 : decode J_M_draftSymbol.2.1 19 = .ok (.iconst 0, 1) := by decide +kernel
theorem J_M_draftSymbol_d20 : decode J_M_draftSymbol.2.1 20 = .ok (.istore 4, 2) := by decide +kernel
theorem J_M_draftSymbol_d22 : decode J_M_draftSymbol.2.1 22 = .ok (.iload 4, 2) := by decide +kernel
theorem J_M_draftSymbol_d24 : decode J_M_draftSymbol.2.1 24 = .ok (.iload_n 3, 1) := by decide +kernel
theorem J_M_draftSymbol_d25 : decode J_M_draftSymbol.2.1 25 = .ok (.if_icmp .ge 26, 3) := by decide +kernel
theorem J_M_draftSymbol_d28 : decode J_M_draftSymbol.2.1 28 = .ok (.aload_n 0, 1) := by decide +kernel
theorem J_M_draftSymbol_d29 : decode J_M_draftSymbol.2.1 29 = .ok (.getfield 37, 3) := by decide +kernel
theorem J_M_draftSymbol_d32 : decode J_M_draftSymbol.2.1 32 = .ok (.iconst 1, 1) := by decide +kernel
theorem J_M_draftSymbol_d33 : decode J_M_draftSymbol.2.1 33 = .ok (.aload_n 0, 1) := by decide +kernel
theorem J_M_draftSymbol_d34 : decode J_M_draftSymbol.2.1 34 = .ok (.iload_n 1, 1) := by decide +kernel
theorem J_M_draftSymbol_d35 : decode J_M_draftSymbol.2.1 35 = .ok (.iload 4, 2) := by decide +kernel
theorem J_M_draftSymbol_d37 : decode J_M_draftSymbol.2.1 37 = .ok (.invokevirtual 105, 3) := by decide +kernel
theorem J_M_draftSymbol_d40 : decode J_M_draftSymbol.2.1 40 = .ok (.i2l, 1) := by decide +kernel
theorem J_M_draftSymbol_d41 : decode J_M_draftSymbol.2.1 41 = .ok (.invokevirtual 136, 3) := by decide +kernel
theorem J_M_draftSymbol_d44 : decode J_M_draftSymbol.2.1 44 = .ok (.istore_n 2, 1) := by decide +kernel
theorem J_M_draftSymbol_d45 : decode J_M_draftSymbol.2.1 45 = .ok (.iinc 4 1, 3) := by decide +kernel
theorem J_M_draftSymbol_d48 : decode J_M_draftSymbol.2.1 48 = .ok (.goto (-26), 3) := by decide +kernel
theorem J_M_draftSymbol_d51 : decode J_M_draftSymbol.2.1 51 = .ok (.bipush 17, 2) := by decide +kernel
theorem J_M_draftSymbol_d53 : decode J_M_draftSymbol.2.1 53 = .ok (.iconst 4, 1) := by decide +kernel
theorem J_M_draftSymbol_d54 : decode J_M_draftSymbol.2.1 54 = .ok (.aload_n 0, 1) := by decide +kernel
theorem J_M_draftSymbol_d55 : decode J_M_draftSymbol.2.1 55 = .ok (.getfield 37, 3) := by decide +kernel
theorem J_M_draftSymbol_d58 : decode J_M_draftSymbol.2.1 58 = .ok (.aload_n 0, 1) := by decide +kernel
theorem J_M_draftSymbol_d59 : decode J_M_draftSymbol.2.1 59 = .ok (.getfield 16, 3) := by decide +kernel
theorem J_M_draftSymbol_d62 : decode J_M_draftSymbol.2.1 62 = .ok (.iload_n 1, 1) := by decide +kernel
theorem J_M_draftSymbol_d63 : decode J_M_draftSymbol.2.1 63 = .ok (.bipush 6, 2) := by decide +kernel
theorem J_M_draftSymbol_d65 : decode J_M_draftSymbol.2.1 65 = .ok (.invokevirtual 97, 3) := by decide +kernel
theorem J_M_draftSymbol_d68 : decode J_M_draftSymbol.2.1 68 = .ok (.iconst 0, 1) := by decide +kernel
theorem J_M_draftSymbol_d69 : decode J_M_draftSymbol.2.1 69 = .ok (.aload_n 0, 1) := by decide +kernel
theorem J_M_draftSymbol_d70 : decode J_M_draftSymbol.2.1 70 = .ok (.getfield 16, 3) := by decide +kernel
theorem J_M_draftSymbol_d73 : decode J_M_draftSymbol.2.1 73 = .ok (.iload_n 1, 1) := by decide +kernel
theorem J_M_draftSymbol_d74 : decode J_M_draftSymbol.2.1 74 = .ok (.bipush 7, 2) := by decide +kernel
theorem J_M_draftSymbol_d76 : decode J_M_draftSymbol.2.1 76 = .ok (.invokevirtual 97, 3) := by decide +kernel
theorem J_M_draftSymbol_d79 : decode J_M_draftSymbol.2.1 79 = .ok (.invokevirtual 139, 3) := by decide +kernel
theorem J_M_draftSymbol_d82 : decode J_M_draftSymbol.2.1 82 = .ok (.imul, 1) := by decide +kernel
theorem J_M_draftSymbol_d83 : decode J_M_draftSymbol.2.1 83 = .ok (.iadd, 1) := by decide +kernel
theorem J_M_draftSymbol_d84 : decode J_M_draftSymbol.2.1 84 = .ok (.istore 4, 2) := by decide +kernel
theorem J_M_draftSymbol_d86 : decode J_M_draftSymbol.2.1 86 = .ok (.iconst 0, 1) := by decide +kernel
theorem J_M_draftSymbol_d87 : decode J_M_draftSymbol.2.1 87 = .ok (.istore 5, 2) := by decide +kernel
theorem J_M_draftSymbol_d89 : decode J_M_draftSymbol.2.1 89 = .ok (.iconst 0, 1) := by decide +kernel
theorem J_M_draftSymbol_d90 : decode J_M_draftSymbol.2.1 90 = .ok (.istore 6, 2) := by decide +kernel
theorem J_M_draftSymbol_d92 : decode J_M_draftSymbol.2.1 92 = .ok (.iload 6, 2) := by decide +kernel
theorem J_M_draftSymbol_d94 : decode J_M_draftSymbol.2.1 94 = .ok (.iload 4, 2) := by decide +kernel
theorem J_M_draftSymbol_d96 : decode J_M_draftSymbol.2.1 96 = .ok (.iload 4, 2) := by decide +kernel
theorem J_M_draftSymbol_d98 : decode J_M_draftSymbol.2.1 98 = .ok (.imul, 1) := by decide +kernel
theorem J_M_draftSymbol_d99 : decode J_M_draftSymbol.2.1 99 = .ok (.if_icmp .ge 55, 3) := by decide +kernel
theorem J_M_draftSymbol_d102 : decode J_M_draftSymbol.2.1 102 = .ok (.iconst 2, 1) := by decide +kernel
theorem J_M_draftSymbol_d103 : decode J_M_draftSymbol.2.1 103 = .ok (.iload 5, 2) := by decide +kernel
theorem J_M_draftSymbol_d105 : decode J_M_draftSymbol.2.1 105 = .ok (.imul, 1) := by decide +kernel
theorem J_M_draftSymbol_d106 : decode J_M_draftSymbol.2.1 106 = .ok (.aload_n 0, 1) := by decide +kernel
theorem J_M_draftSymbol_d107 : decode J_M_draftSymbol.2.1 107 = .ok (.getfield 37, 3) := by decide +kernel
theorem J_M_draftSymbol_d110 : decode J_M_draftSymbol.2.1 110 = .ok (.iload 6, 2) := by decide +kernel
theorem J_M_draftSymbol_d112 : decode J_M_draftSymbol.2.1 112 = .ok (.iload 4, 2) := by decide +kernel
theorem J_M_draftSymbol_d114 : decode J_M_draftSymbol.2.1 114 = .ok (.irem, 1) := by decide +kernel
theorem J_M_draftSymbol_d115 : decode J_M_draftSymbol.2.1 115 = .ok (.iload 6, 2) := by decide +kernel
theorem J_M_draftSymbol_d117 : decode J_M_draftSymbol.2.1 117 = .ok (.iload 4, 2) := by decide +kernel
theorem J_M_draftSymbol_d119 : decode J_M_draftSymbol.2.1 119 = .ok (.idiv, 1) := by decide +kernel
theorem J_M_draftSymbol_d120 : decode J_M_draftSymbol.2.1 120 = .ok (.invokevirtual 143, 3) := by decide +kernel
theorem J_M_draftSymbol_d123 : decode J_M_draftSymbol.2.1 123 = .ok (.lconst 1, 1) := by decide +kernel
theorem J_M_draftSymbol_d124 : decode J_M_draftSymbol.2.1 124 = .ok (.land, 1) := by decide +kernel
theorem J_M_draftSymbol_d125 : decode J_M_draftSymbol.2.1 125 = .ok (.l2i, 1) := by decide +kernel
theorem J_M_draftSymbol_d126 : decode J_M_draftSymbol.2.1 126 = .ok (.iadd, 1) := by decide +kernel
theorem J_M_draftSymbol_d127 : decode J_M_draftSymbol.2.1 127 = .ok (.istore 5, 2) := by decide +kernel
theorem J_M_draftSymbol_d129 : decode J_M_draftSymbol.2.1 129 = .ok (.iload 6, 2) := by decide +kernel
theorem J_M_draftSymbol_d131 : decode J_M_draftSymbol.2.1 131 = .ok (.bipush 8, 2) := by decide +kernel
theorem J_M_draftSymbol_d133 : decode J_M_draftSymbol.2.1 133 = .ok (.irem, 1) := by decide +kernel
theorem J_M_draftSymbol_d134 : decode J_M_draftSymbol.2.1 134 = .ok (.bipush 7, 2) := by decide +kernel
theorem J_M_draftSymbol_d136 : decode J_M_draftSymbol.2.1 136 = .ok (.if_icmp .ne 12, 3) := by decide +kernel
theorem J_M_draftSymbol_d139 : decode J_M_draftSymbol.2.1 139 = .ok (.aload_n 0, 1) := by decide +kernel
theorem J_M_draftSymbol_d140 : decode J_M_draftSymbol.2.1 140 = .ok (.iload 5, 2) := by decide +kernel
theorem J_M_draftSymbol_d142 : decode J_M_draftSymbol.2.1 142 = .ok (.invokevirtual 108, 3) := by decide +kernel
theorem J_M_draftSymbol_d145 : decode J_M_draftSymbol.2.1 145 = .ok (.iconst 0, 1) := by decide +kernel
theorem J_M_draftSymbol_d146 : decode J_M_draftSymbol.2.1 146 = .ok (.istore 5, 2) := by decide +kernel
theorem J_M_draftSymbol_d148 : decode J_M_draftSymbol.2.1 148 = .ok (.iinc 6 1, 3) := by decide +kernel
theorem J_M_draftSymbol_d151 : decode J_M_draftSymbol.2.1 151 = .ok (.goto (-59), 3) := by decide +kernel
theorem J_M_draftSymbol_d154 : decode J_M_draftSymbol.2.1 154 = .ok (.aload_n 0, 1) := by decide +kernel
theorem J_M_draftSymbol_d155 : decode J_M_draftSymbol.2.1 155 = .ok (.iload 5, 2) := by decide +kernel
theorem J_M_draftSymbol_d157 : decode J_M_draftSymbol.2.1 157 = .ok (.bipush 8, 2) := by decide +kernel
theorem J_M_draftSymbol_d159 : decode J_M_draftSymbol.2.1 159 = .ok (.iload 4, 2) := by decide +kernel
theorem J_M_draftSymbol_d161 : decode J_M_draftSymbol.2.1 161 = .ok (.iload 4, 2) := by decide +kernel
theorem J_M_draftSymbol_d163 : decode J_M_draftSymbol.2.1 163 = .ok (.imul, 1) := by decide +kernel
theorem J_M_draftSymbol_d164 : decode J_M_draftSymbol.2.1 164 = .ok (.bipush 8, 2) := by decide +kernel
theorem J_M_draftSymbol_d166 : decode J_M_draftSymbol.2.1 166 = .ok (.irem, 1) := by decide +kernel
theorem J_M_draftSymbol_d167 : decode J_M_draftSymbol.2.1 167 = .ok (.isub, 1) := by decide +kernel
theorem J_M_draftSymbol_d168 : decode J_M_draftSymbol.2.1 168 = .ok (.ishl, 1) := by decide +kernel
theorem J_M_draftSymbol_d169 : decode J_M_draftSymbol.2.1 169 = .ok (.invokevirtual 108, 3) := by decide +kernel
theorem J_M_draftSymbol_d172 : decode J_M_draftSymbol.2.1 172 = .ok (.iload 4, 2) := by decide +kernel
theorem J_M_draftSymbol_d174 : decode J_M_draftSymbol.2.1 174 = .ok (.ireturn, 1) := by decide +kernel
theorem f_M_draftSymbol_ok {L : Nat} {xs : Nat → Int32} {dep : Nat} {w : Bool} {p0 : Int32} {M : im_M} {Q : Int32 × im_M → Prop} (hM : lw_S w M) (h : ed (f_M_draftSymbol p0 M) Q) : ia (tb_G L xs) (dep + 9) J_M_draftSymbol (rwI w Q) (0, lv_args 0 [.ref 69, .int p0], [], M) := by
  have hS : im_St (tb_G L xs) (dep + 9) J_M_draftSymbol (ia (tb_G L xs) (dep + 9) J_M_draftSymbol (rwI w Q)) := ia_St
  unfold f_M_draftSymbol at h
  have l0 : im_lk (lv_args 0 [.ref 69, .int p0]) 0 = some (.ref 69) := rfl
  have l1 : im_lk (lv_args 0 [.ref 69, .int p0]) 1 = some (.int p0) := rfl
  refine iq_aload_n hS 1 J_M_draftSymbol_d0 l0 rfl ?_
  refine iq_getR hS 4 J_M_draftSymbol_d1 lf_17_37 (Or.inl ⟨_, rfl⟩) (ka_69 hM) (ra_69_6 hM) rfl ?_
  obtain ⟨Q1, hQ1, h⟩ := bd2_ed h
  refine iq_cwI hS 7 J_M_draftSymbol_d4 rfl (pr_inst (vs := []) lc_17_135 lT_386 rfl rfl (by decide) (by decide) rfl (Nat.le_of_ble_eq_true rfl) (Nat.le_of_ble_eq_true rfl) (fun _ => Or.inl (pr_b (ka_108 hM) (by decide) rfl))) (f_MSquareRows_wipe_ok (dep := dep + 8) hM h) rfl ?_
  intro x1 M1 hM1 h
  replace h := hQ1 _ _ h
  refine iq_istore_n hS 8 J_M_draftSymbol_d7 (by decide) rfl ?_
  refine iq_aload_n hS 9 J_M_draftSymbol_d8 (lk_1r l0 (by decide)) rfl ?_
  refine iq_getR hS 12 J_M_draftSymbol_d9 lf_17_16 (Or.inl ⟨_, rfl⟩) (ka_69 hM1) (ra_69_3 hM1) rfl ?_
  refine iq_iload_n hS 13 J_M_draftSymbol_d12 (lk_1i l1 (by decide)) rfl ?_
  refine iq_bipush hS 15 J_M_draftSymbol_d13 (v := 8) (by decide +kernel) rfl ?_
  obtain ⟨Q2, hQ2, h⟩ := bd2_ed h
  refine iq_cwI hS 18 J_M_draftSymbol_d15 rfl (pr_inst (vs := [_, _]) lc_17_97 lT_327 rfl rfl (by decide) (by decide) rfl (Nat.le_of_ble_eq_true rfl) (Nat.le_of_ble_eq_true rfl) (fun _ => Or.inl (pr_b (ka_71 hM1) (by decide) rfl))) (f_MScriptRows_order_ok (dep := dep + 8) hM1 h) rfl ?_
  intro x2 M2 hM2 h
  replace h := hQ2 _ _ h
  refine iq_istore_n hS 19 J_M_draftSymbol_d18 (by decide) rfl ?_
  refine iq_iconst hS 20 J_M_draftSymbol_d19 (v := 0) (by decide +kernel) rfl ?_
  refine iq_istore hS 22 J_M_draftSymbol_d20 (by decide) rfl ?_
  obtain ⟨Q3, hQ3, h⟩ := bd1_ed h
  have K3 : ∀ (M4 : im_M) (L' : List (Nat × Value)), lw_S w M4 → im_lk L' 0 = some (.ref 69) → im_lk L' 1 = some (.int p0) → Q3 M4 → ia (tb_G L xs) (dep + 9) J_M_draftSymbol (rwI w Q) (51, L', [], M4) := by
    intro M4 L' hM4 l5 l6 h
    replace h := hQ3 _ h
    refine iq_bipush hS 53 J_M_draftSymbol_d51 (v := 17) (by decide +kernel) rfl ?_
    refine iq_iconst hS 54 J_M_draftSymbol_d53 (v := 4) (by decide +kernel) rfl ?_
    refine iq_aload_n hS 55 J_M_draftSymbol_d54 l5 rfl ?_
    refine iq_getR hS 58 J_M_draftSymbol_d55 lf_17_37 (Or.inl ⟨_, rfl⟩) (ka_69 hM4) (ra_69_6 hM4) rfl ?_
    refine iq_aload_n hS 59 J_M_draftSymbol_d58 l5 rfl ?_
    refine iq_getR hS 62 J_M_draftSymbol_d59 lf_17_16 (Or.inl ⟨_, rfl⟩) (ka_69 hM4) (ra_69_3 hM4) rfl ?_
    refine iq_iload_n hS 63 J_M_draftSymbol_d62 l6 rfl ?_
    refine iq_bipush hS 65 J_M_draftSymbol_d63 (v := 6) (by decide +kernel) rfl ?_
    obtain ⟨Q7, hQ7, h⟩ := bd2_ed h
    refine iq_cwI hS 68 J_M_draftSymbol_d65 rfl (pr_inst (vs := [_, _]) lc_17_97 lT_327 rfl rfl (by decide) (by decide) rfl (Nat.le_of_ble_eq_true rfl) (Nat.le_of_ble_eq_true rfl) (fun _ => Or.inl (pr_b (ka_71 hM4) (by decide) rfl))) (f_MScriptRows_order_ok (dep := dep + 8) hM4 h) rfl ?_
    intro x7 M7 hM7 h
    replace h := hQ7 _ _ h
    refine iq_iconst hS 69 J_M_draftSymbol_d68 (v := 0) (by decide +kernel) rfl ?_
    refine iq_aload_n hS 70 J_M_draftSymbol_d69 l5 rfl ?_
    refine iq_getR hS 73 J_M_draftSymbol_d70 lf_17_16 (Or.inl ⟨_, rfl⟩) (ka_69 hM7) (ra_69_3 hM7) rfl ?_
    refine iq_iload_n hS 74 J_M_draftSymbol_d73 l6 rfl ?_
    refine iq_bipush hS 76 J_M_draftSymbol_d74 (v := 7) (by decide +kernel) rfl ?_
    obtain ⟨Q8, hQ8, h⟩ := bd2_ed h
    refine iq_cwI hS 79 J_M_draftSymbol_d76 rfl (pr_inst (vs := [_, _]) lc_17_97 lT_327 rfl rfl (by decide) (by decide) rfl (Nat.le_of_ble_eq_true rfl) (Nat.le_of_ble_eq_true rfl) (fun _ => Or.inl (pr_b (ka_71 hM7) (by decide) rfl))) (f_MScriptRows_order_ok (dep := dep + 8) hM7 h) rfl ?_
    intro x8 M8 hM8 h
    replace h := hQ8 _ _ h
    obtain ⟨Q9, hQ9, h⟩ := bd2_ed h
    refine iq_cwI hS 82 J_M_draftSymbol_d79 rfl (pr_inst (vs := [_, _, _]) lc_17_139 lT_388 rfl rfl (by decide) (by decide) rfl (Nat.le_of_ble_eq_true rfl) (Nat.le_of_ble_eq_true rfl) (fun _ => Or.inl (pr_b (ka_108 hM8) (by decide) rfl))) (f_MSquareRows_make_ok (dep := dep + 0) hM8 h) rfl ?_
    intro x9 M9 hM9 h
    replace h := hQ9 _ _ h
    refine iq_imul hS 83 J_M_draftSymbol_d82 rfl ?_
    refine iq_iadd hS 84 J_M_draftSymbol_d83 rfl ?_
    refine iq_istore hS 86 J_M_draftSymbol_d84 (by decide) rfl ?_
    refine iq_iconst hS 87 J_M_draftSymbol_d86 (v := 0) (by decide +kernel) rfl ?_
    refine iq_istore hS 89 J_M_draftSymbol_d87 (by decide) rfl ?_
    refine iq_iconst hS 90 J_M_draftSymbol_d89 (v := 0) (by decide +kernel) rfl ?_
    refine iq_istore hS 92 J_M_draftSymbol_d90 (by decide) rfl ?_
    obtain ⟨Q10, hQ10, h⟩ := bd2_ed h
    have K10 : ∀ (y11 : Int32) (M12 : im_M) (L' : List (Nat × Value)), lw_S w M12 → im_lk L' 0 = some (.ref 69) → im_lk L' 4 = some (.int ((17 : Int32) + ((4 : Int32) * x9))) → im_lk L' 5 = some (.int y11) → Q10 (y11, M12) → ia (tb_G L xs) (dep + 9) J_M_draftSymbol (rwI w Q) (154, L', [], M12) := by
      intro y11 M12 L' hM12 l13 l14 l15 h
      replace h := hQ10 _ _ h
      refine iq_aload_n hS 155 J_M_draftSymbol_d154 l13 rfl ?_
      refine iq_iload hS 157 J_M_draftSymbol_d155 l15 rfl ?_
      refine iq_bipush hS 159 J_M_draftSymbol_d157 (v := 8) (by decide +kernel) rfl ?_
      refine iq_iload hS 161 J_M_draftSymbol_d159 l14 rfl ?_
      refine iq_iload hS 163 J_M_draftSymbol_d161 l14 rfl ?_
      refine iq_imul hS 164 J_M_draftSymbol_d163 rfl ?_
      refine iq_bipush hS 166 J_M_draftSymbol_d164 (v := 8) (by decide +kernel) rfl ?_
      refine iq_irem hS 167 J_M_draftSymbol_d166 (by decide) rfl ?_
      refine iq_isub hS 168 J_M_draftSymbol_d167 rfl ?_
      refine iq_ishl hS 169 J_M_draftSymbol_d168 rfl ?_
      obtain ⟨Q16, hQ16, h⟩ := bd1_ed h
      refine iq_cwV hS 172 J_M_draftSymbol_d169 rfl (pr_inst (vs := [_]) lc_17_108 lT_337 rfl rfl (by decide) (by decide) rfl (Nat.le_of_ble_eq_true rfl) (Nat.le_of_ble_eq_true rfl) (fun _ => Or.inl (pr_b (ka_69 hM12) (by decide) rfl))) (f_M_draft_ok (dep := dep + 7) hM12 h) rfl ?_
      intro M16 hM16 h
      replace h := hQ16 _ h
      refine iq_iload hS 174 J_M_draftSymbol_d172 l14 rfl ?_
      exact iq_iret J_M_draftSymbol_d174 rfl rfl ⟨_, rfl, hM16, ed_some h⟩
    obtain ⟨r10, hr10, hq10⟩ := h
    obtain ⟨n10, hn10⟩ := lp_n hr10
    have I10 : ∀ (n : Nat) (x17 : Int32) (x18 : Int32) (M19 : im_M) (L' : List (Nat × Value)), lw_S w M19 → im_lk L' 0 = some (.ref 69) → im_lk L' 4 = some (.int ((17 : Int32) + ((4 : Int32) * x9))) → im_lk L' 5 = some (.int x17) → im_lk L' 6 = some (.int x18) → lpn (uc3 (f_M_draftSymbol_L92 ((17 : Int32) + ((4 : Int32) * x9)))) n (x17, x18, M19) = some r10 → ia (tb_G L xs) (dep + 9) J_M_draftSymbol (rwI w Q) (92, L', [], M19) := by
      intro n
      induction n with
      | zero => intro x17 x18 M19 L' hM19 l20 l21 l22 l23 hn; exact (lpn_0 hn).elim
      | succ n ih =>
        intro x17 x18 M19 L' hM19 l20 l21 l22 l23 hn
        have h := lpn_ed3 hn
        unfold f_M_draftSymbol_L92 at h
        refine iq_iload hS 94 J_M_draftSymbol_d92 l23 rfl ?_
        refine iq_iload hS 96 J_M_draftSymbol_d94 l21 rfl ?_
        refine iq_iload hS 98 J_M_draftSymbol_d96 l21 rfl ?_
        refine iq_imul hS 99 J_M_draftSymbol_d98 rfl ?_
        refine iq_icmp_ge hS 102 J_M_draftSymbol_d99 (t := 154) rfl (fun q99 => ?_) rfl (fun q99 => ?_)
        · replace h := ed_pos q99 h
          exact K10 _ _ _ hM19 l20 l21 l22 (lq_r h hq10)
        · replace h := ed_neg q99 h
          refine iq_iconst hS 103 J_M_draftSymbol_d102 (v := 2) (by decide +kernel) rfl ?_
          refine iq_iload hS 105 J_M_draftSymbol_d103 l22 rfl ?_
          refine iq_imul hS 106 J_M_draftSymbol_d105 rfl ?_
          refine iq_aload_n hS 107 J_M_draftSymbol_d106 l20 rfl ?_
          refine iq_getR hS 110 J_M_draftSymbol_d107 lf_17_37 (Or.inl ⟨_, rfl⟩) (ka_69 hM19) (ra_69_6 hM19) rfl ?_
          refine iq_iload hS 112 J_M_draftSymbol_d110 l23 rfl ?_
          refine iq_iload hS 114 J_M_draftSymbol_d112 l21 rfl ?_
          obtain ⟨g114, h⟩ := ed_gd h
          refine iq_irem hS 115 J_M_draftSymbol_d114 g114 rfl ?_
          refine iq_iload hS 117 J_M_draftSymbol_d115 l23 rfl ?_
          refine iq_iload hS 119 J_M_draftSymbol_d117 l21 rfl ?_
          obtain ⟨g119, h⟩ := ed_gd h
          refine iq_idiv hS 120 J_M_draftSymbol_d119 g119 rfl ?_
          obtain ⟨Q24, hQ24, h⟩ := bd2_ed h
          refine iq_cwL hS 123 J_M_draftSymbol_d120 rfl (pr_inst (vs := [_, _]) lc_17_143 lT_433 rfl rfl (by decide) (by decide) rfl (Nat.le_of_ble_eq_true rfl) (Nat.le_of_ble_eq_true rfl) (fun _ => Or.inl (pr_b (ka_108 hM19) (by decide) rfl))) (f_MSquareRows_row_ok (dep := dep + 7) hM19 h) rfl ?_
          intro x24 M24 hM24 h
          replace h := hQ24 _ _ h
          refine iq_lconst hS 124 J_M_draftSymbol_d123 (v := 1) (by decide +kernel) rfl ?_
          refine iq_land hS 125 J_M_draftSymbol_d124 rfl ?_
          refine iq_l2i hS 126 J_M_draftSymbol_d125 rfl ?_
          refine iq_iadd hS 127 J_M_draftSymbol_d126 rfl ?_
          refine iq_istore hS 129 J_M_draftSymbol_d127 (by decide) rfl ?_
          refine iq_iload hS 131 J_M_draftSymbol_d129 (lk_1i l23 (by decide)) rfl ?_
          refine iq_bipush hS 133 J_M_draftSymbol_d131 (v := 8) (by decide +kernel) rfl ?_
          refine iq_irem hS 134 J_M_draftSymbol_d133 (by decide) rfl ?_
          refine iq_bipush hS 136 J_M_draftSymbol_d134 (v := 7) (by decide +kernel) rfl ?_
          obtain ⟨Q25, hQ25, h⟩ := bd2_ed h
          have J25 : ∀ (y27 : Int32) (M28 : im_M) (L' : List (Nat × Value)), lw_S w M28 → im_lk L' 0 = some (.ref 69) → im_lk L' 4 = some (.int ((17 : Int32) + ((4 : Int32) * x9))) → im_lk L' 5 = some (.int y27) → im_lk L' 6 = some (.int x18) → Q25 (y27, M28) → ia (tb_G L xs) (dep + 9) J_M_draftSymbol (rwI w Q) (148, L', [], M28) := by
            intro y27 M28 L' hM28 l29 l30 l31 l32 h
            replace h := hQ25 _ _ h
            refine iq_iincv hS 151 J_M_draftSymbol_d148 (c := 1) (by decide +kernel) l32 (by decide) rfl ?_
            refine iq_goto hS J_M_draftSymbol_d151 (t := 92) rfl ?_
            exact ih _ _ _ _ hM28 (lk_1r l29 (by decide)) (lk_1i l30 (by decide)) (lk_1i l31 (by decide)) lk_1s (lq_l h)
          refine iq_icmp_ne hS 139 J_M_draftSymbol_d136 (t := 148) rfl (fun q136 => ?_) rfl (fun q136 => ?_)
          · replace h := ed_pos q136 h
            exact J25 _ _ _ hM24 (lk_1r l20 (by decide)) (lk_1i l21 (by decide)) lk_1s (lk_1i l23 (by decide)) (ed_some h)
          · replace h := ed_neg q136 h
            refine iq_aload_n hS 140 J_M_draftSymbol_d139 (lk_1r l20 (by decide)) rfl ?_
            refine iq_iload hS 142 J_M_draftSymbol_d140 lk_1s rfl ?_
            obtain ⟨Q26, hQ26, h⟩ := bd1_ed h
            refine iq_cwV hS 145 J_M_draftSymbol_d142 rfl (pr_inst (vs := [_]) lc_17_108 lT_337 rfl rfl (by decide) (by decide) rfl (Nat.le_of_ble_eq_true rfl) (Nat.le_of_ble_eq_true rfl) (fun _ => Or.inl (pr_b (ka_69 hM24) (by decide) rfl))) (f_M_draft_ok (dep := dep + 7) hM24 h) rfl ?_
            intro M26 hM26 h
            replace h := hQ26 _ h
            refine iq_iconst hS 146 J_M_draftSymbol_d145 (v := 0) (by decide +kernel) rfl ?_
            refine iq_istore hS 148 J_M_draftSymbol_d146 (by decide) rfl ?_
            exact J25 _ _ _ hM26 (lk_1r (lk_1r l20 (by decide)) (by decide)) (lk_1i (lk_1i l21 (by decide)) (by decide)) lk_1s (lk_1i (lk_1i l23 (by decide)) (by decide)) (ed_some h)
    exact I10 n10 _ _ _ _ hM9 (lk_1r (lk_1r (lk_1r l5 (by decide)) (by decide)) (by decide)) (lk_1i (lk_1i lk_1s (by decide)) (by decide)) (lk_1i lk_1s (by decide)) lk_1s hn10
  obtain ⟨r3, hr3, hq3⟩ := h
  obtain ⟨n3, hn3⟩ := lp_n hr3
  have I3 : ∀ (n : Nat) (x33 : Int32) (M34 : im_M) (L' : List (Nat × Value)), lw_S w M34 → im_lk L' 0 = some (.ref 69) → im_lk L' 1 = some (.int p0) → im_lk L' 3 = some (.int x2) → im_lk L' 4 = some (.int x33) → lpn (uc2 (f_M_draftSymbol_L22 p0 x2)) n (x33, M34) = some r3 → ia (tb_G L xs) (dep + 9) J_M_draftSymbol (rwI w Q) (22, L', [], M34) := by
    intro n
    induction n with
    | zero => intro x33 M34 L' hM34 l35 l36 l37 l38 hn; exact (lpn_0 hn).elim
    | succ n ih =>
      intro x33 M34 L' hM34 l35 l36 l37 l38 hn
      have h := lpn_ed2 hn
      unfold f_M_draftSymbol_L22 at h
      refine iq_iload hS 24 J_M_draftSymbol_d22 l38 rfl ?_
      refine iq_iload_n hS 25 J_M_draftSymbol_d24 l37 rfl ?_
      refine iq_icmp_ge hS 28 J_M_draftSymbol_d25 (t := 51) rfl (fun q25 => ?_) rfl (fun q25 => ?_)
      · replace h := ed_pos q25 h
        exact K3 _ _ hM34 l35 l36 (lq_r h hq3)
      · replace h := ed_neg q25 h
        refine iq_aload_n hS 29 J_M_draftSymbol_d28 l35 rfl ?_
        refine iq_getR hS 32 J_M_draftSymbol_d29 lf_17_37 (Or.inl ⟨_, rfl⟩) (ka_69 hM34) (ra_69_6 hM34) rfl ?_
        refine iq_iconst hS 33 J_M_draftSymbol_d32 (v := 1) (by decide +kernel) rfl ?_
        refine iq_aload_n hS 34 J_M_draftSymbol_d33 l35 rfl ?_
        refine iq_iload_n hS 35 J_M_draftSymbol_d34 l36 rfl ?_
        refine iq_iload hS 37 J_M_draftSymbol_d35 l38 rfl ?_
        obtain ⟨Q39, hQ39, h⟩ := bd2_ed h
        refine iq_cwI hS 40 J_M_draftSymbol_d37 rfl (pr_inst (vs := [_, _]) lc_17_105 lT_336 rfl rfl (by decide) (by decide) rfl (Nat.le_of_ble_eq_true rfl) (Nat.le_of_ble_eq_true rfl) (fun _ => Or.inl (pr_b (ka_69 hM34) (by decide) rfl))) (f_M_byteOf_ok (dep := dep + 7) hM34 h) rfl ?_
        intro x39 M39 hM39 h
        replace h := hQ39 _ _ h
        refine iq_i2l hS 41 J_M_draftSymbol_d40 rfl ?_
        obtain ⟨Q40, hQ40, h⟩ := bd2_ed h
        refine iq_cwI hS 44 J_M_draftSymbol_d41 rfl (pr_inst (vs := [_, _]) lc_17_136 lT_387 rfl rfl (by decide) (by decide) rfl (Nat.le_of_ble_eq_true rfl) (Nat.le_of_ble_eq_true rfl) (fun _ => Or.inl (pr_b (ka_108 hM39) (by decide) rfl))) (f_MSquareRows_put_ok (dep := dep + 8) hM39 h) rfl ?_
        intro x40 M40 hM40 h
        replace h := hQ40 _ _ h
        refine iq_istore_n hS 45 J_M_draftSymbol_d44 (by decide) rfl ?_
        refine iq_iincv hS 48 J_M_draftSymbol_d45 (c := 1) (by decide +kernel) (lk_1i l38 (by decide)) (by decide) rfl ?_
        refine iq_goto hS J_M_draftSymbol_d48 (t := 22) rfl ?_
        exact ih _ _ _ hM40 (lk_1r (lk_1r l35 (by decide)) (by decide)) (lk_1i (lk_1i l36 (by decide)) (by decide)) (lk_1i (lk_1i l37 (by decide)) (by decide)) lk_1s (lq_l h)
  exact I3 n3 _ _ _ hM2 (lk_1r (lk_1r (lk_1r l0 (by decide)) (by decide)) (by decide)) (lk_1i (lk_1i (lk_1i l1 (by decide)) (by decide)) (by decide)) (lk_1i lk_1s (by decide)) lk_1s hn3
theorem f_M_draftSymbol_fr {p0 : Int32} {M : im_M} {r : Int32 × im_M} (h : f_M_draftSymbol p0 M = some r) : fr 175455499300131387966629787808437370880 [(71, 0), (89, 0), (89, 7), (108, 0), (108, 4), (108, 7), (108, 8), (108, 9), (108, 13), (108, 16), (108, 19)] M r.2 := by
  replace h : ed (f_M_draftSymbol p0 M) (fun x => x = r) := ⟨r, h, rfl⟩
  unfold f_M_draftSymbol at h
  obtain ⟨Q1, hQ1, h⟩ := bd2_ed h
  obtain ⟨⟨x1, M1⟩, e1, h⟩ := h
  replace h := hQ1 _ _ h
  obtain ⟨Q2, hQ2, h⟩ := bd2_ed h
  obtain ⟨⟨x2, M2⟩, e2, h⟩ := h
  replace h := hQ2 _ _ h
  obtain ⟨Q3, hQ3, h⟩ := bd1_ed h
  have K3 : ∀ (M4 : im_M), fr 175455499300131387966629787808437370880 [(71, 0), (89, 0), (89, 7), (108, 0), (108, 4), (108, 7), (108, 8), (108, 9), (108, 13), (108, 16), (108, 19)] M M4 → Q3 M4 → fr 175455499300131387966629787808437370880 [(71, 0), (89, 0), (89, 7), (108, 0), (108, 4), (108, 7), (108, 8), (108, 9), (108, 13), (108, 16), (108, 19)] M r.2 := by
    intro M4 hM4 h
    replace h := hQ3 _ h
    obtain ⟨Q5, hQ5, h⟩ := bd2_ed h
    obtain ⟨⟨x5, M5⟩, e5, h⟩ := h
    replace h := hQ5 _ _ h
    obtain ⟨Q6, hQ6, h⟩ := bd2_ed h
    obtain ⟨⟨x6, M6⟩, e6, h⟩ := h
    replace h := hQ6 _ _ h
    obtain ⟨Q7, hQ7, h⟩ := bd2_ed h
    obtain ⟨⟨x7, M7⟩, e7, h⟩ := h
    replace h := hQ7 _ _ h
    obtain ⟨Q8, hQ8, h⟩ := bd2_ed h
    have K8 : ∀ (y9 : Int32) (M10 : im_M), fr 175455499300131387966629787808437370880 [(71, 0), (89, 0), (89, 7), (108, 0), (108, 4), (108, 7), (108, 8), (108, 9), (108, 13), (108, 16), (108, 19)] M M10 → Q8 (y9, M10) → fr 175455499300131387966629787808437370880 [(71, 0), (89, 0), (89, 7), (108, 0), (108, 4), (108, 7), (108, 8), (108, 9), (108, 13), (108, 16), (108, 19)] M r.2 := by
      intro y9 M10 hM10 h
      replace h := hQ8 _ _ h
      obtain ⟨Q11, hQ11, h⟩ := bd1_ed h
      obtain ⟨M11, e11, h⟩ := h
      replace h := hQ11 _ h
      exact fr_ret h (fr_tr (fr_mono (by decide) (by decide +kernel) (f_M_draft_fr e11)) hM10)
    obtain ⟨r8, hr8, hq8⟩ := h
    obtain ⟨n8, hn8⟩ := lp_n hr8
    have I8 : ∀ (n : Nat) (x12 : Int32) (x13 : Int32) (M14 : im_M), fr 175455499300131387966629787808437370880 [(71, 0), (89, 0), (89, 7), (108, 0), (108, 4), (108, 7), (108, 8), (108, 9), (108, 13), (108, 16), (108, 19)] M M14 → lpn (uc3 (f_M_draftSymbol_L92 ((17 : Int32) + ((4 : Int32) * x7)))) n (x12, x13, M14) = some r8 → fr 175455499300131387966629787808437370880 [(71, 0), (89, 0), (89, 7), (108, 0), (108, 4), (108, 7), (108, 8), (108, 9), (108, 13), (108, 16), (108, 19)] M r.2 := by
      intro n
      induction n with
      | zero => intro x12 x13 M14 hM14 hn; exact (lpn_0 hn).elim
      | succ n ih =>
        intro x12 x13 M14 hM14 hn
        have h := lpn_ed3 hn
        unfold f_M_draftSymbol_L92 at h
        by_cases q99 : (((17 : Int32) + ((4 : Int32) * x7)) * ((17 : Int32) + ((4 : Int32) * x7))) ≤ x13
        · replace h := ed_pos q99 h
          exact K8 _ _ hM14 (lq_r h hq8)
        · replace h := ed_neg q99 h
          obtain ⟨g114, h⟩ := ed_gd h
          obtain ⟨g119, h⟩ := ed_gd h
          obtain ⟨Q15, hQ15, h⟩ := bd2_ed h
          obtain ⟨⟨x15, M15⟩, e15, h⟩ := h
          replace h := hQ15 _ _ h
          obtain ⟨Q16, hQ16, h⟩ := bd2_ed h
          have J16 : ∀ (y18 : Int32) (M19 : im_M), fr 175455499300131387966629787808437370880 [(71, 0), (89, 0), (89, 7), (108, 0), (108, 4), (108, 7), (108, 8), (108, 9), (108, 13), (108, 16), (108, 19)] M M19 → Q16 (y18, M19) → fr 175455499300131387966629787808437370880 [(71, 0), (89, 0), (89, 7), (108, 0), (108, 4), (108, 7), (108, 8), (108, 9), (108, 13), (108, 16), (108, 19)] M r.2 := by
            intro y18 M19 hM19 h
            replace h := hQ16 _ _ h
            exact ih _ _ _ hM19 (lq_l h)
          by_cases q136 : ¬ (x13 - x13 / 8 * 8) = 7
          · replace h := ed_pos q136 h
            exact J16 _ _ (fr_tr (fr_mono (by decide) (by decide +kernel) (f_MSquareRows_row_fr e15)) hM14) (ed_some h)
          · replace h := ed_neg q136 h
            obtain ⟨Q17, hQ17, h⟩ := bd1_ed h
            obtain ⟨M17, e17, h⟩ := h
            replace h := hQ17 _ h
            exact J16 _ _ (fr_tr (fr_mono (by decide) (by decide +kernel) (f_M_draft_fr e17)) (fr_tr (fr_mono (by decide) (by decide +kernel) (f_MSquareRows_row_fr e15)) hM14)) (ed_some h)
    exact I8 n8 _ _ _ (fr_tr (fr_mono (by decide) (by decide +kernel) (f_MSquareRows_make_fr e7)) (fr_tr (fr_mono (by decide) (by decide +kernel) (f_MScriptRows_order_fr e6)) (fr_tr (fr_mono (by decide) (by decide +kernel) (f_MScriptRows_order_fr e5)) hM4))) hn8
  obtain ⟨r3, hr3, hq3⟩ := h
  obtain ⟨n3, hn3⟩ := lp_n hr3
  have I3 : ∀ (n : Nat) (x24 : Int32) (M25 : im_M), fr 175455499300131387966629787808437370880 [(71, 0), (89, 0), (89, 7), (108, 0), (108, 4), (108, 7), (108, 8), (108, 9), (108, 13), (108, 16), (108, 19)] M M25 → lpn (uc2 (f_M_draftSymbol_L22 p0 x2)) n (x24, M25) = some r3 → fr 175455499300131387966629787808437370880 [(71, 0), (89, 0), (89, 7), (108, 0), (108, 4), (108, 7), (108, 8), (108, 9), (108, 13), (108, 16), (108, 19)] M r.2 := by
    intro n
    induction n with
    | zero => intro x24 M25 hM25 hn; exact (lpn_0 hn).elim
    | succ n ih =>
      intro x24 M25 hM25 hn
      have h := lpn_ed2 hn
      unfold f_M_draftSymbol_L22 at h
      by_cases q25 : x2 ≤ x24
      · replace h := ed_pos q25 h
        exact K3 _ hM25 (lq_r h hq3)
      · replace h := ed_neg q25 h
        obtain ⟨Q26, hQ26, h⟩ := bd2_ed h
        obtain ⟨⟨x26, M26⟩, e26, h⟩ := h
        replace h := hQ26 _ _ h
        obtain ⟨Q27, hQ27, h⟩ := bd2_ed h
        obtain ⟨⟨x27, M27⟩, e27, h⟩ := h
        replace h := hQ27 _ _ h
        exact ih _ _ (fr_tr (fr_mono (by decide) (by decide +kernel) (f_MSquareRows_put_fr e27)) (fr_tr (fr_mono (by decide) (by decide +kernel) (f_M_byteOf_fr e26)) hM25)) (lq_l h)
  exact I3 n3 _ _ (fr_tr (fr_mono (by decide) (by decide +kernel) (f_MScriptRows_order_fr e2)) (fr_tr (fr_mono (by decide) (by decide +kernel) (f_MSquareRows_wipe_fr e1)) fr_refl)) hn3
noncomputable def f_MDotRows_square (p0 : Int32) (p1 : Int32) (p2 : Int32) (p3 : Int32) (p4 : Int32) (M : im_M) : Option (Int32 × im_M) := bd1 (f_MDotRows_noPlace p0 p1 M) fun (x1 : Int32) => bd1 (jn0 (fun (_ : Unit) => some 1) fun k3 => if ¬ x1 = 0 then k3 () else bd1 (f_MDotRows_isNot p2 1 177 M) fun (x4 : Int32) => if ¬ x4 = 0 then k3 () else bd1 (f_MDotRows_isNot p3 1 50 M) fun (x5 : Int32) => if ¬ x5 = 0 then k3 () else bd1 (f_MDotRows_isNot p4 0 3 M) fun (x6 : Int32) => if x6 = 0 then if (p2 * p2) ≤ ((8 : Int32) * (im_i M 89 7)) then some 0 else some 2 else k3 ()) fun (y13 : Int32) => if (im_i (im_setI M 89 0 y13) 89 0) ≤ 0 then bd1 (f_MDotRows_at p0 p1 p2 p3 0 (im_setI M 89 0 y13)) fun (M20 : im_M) => bd2 (f_MDotRows_draw 5 (im_setI M20 89 15 p4)) fun (x21 : Int32) (M21 : im_M) => some (x21, M21) else some (0, (im_setI M 89 0 y13))
theorem J_MDotRows_square_d0 : decode J_MDotRows_square.2.1 0 = .ok (.aload_n 0, 1) := by decide +kernel
theorem J_MDotRows_square_d1 : decode J_MDotRows_square.2.1 1 = .ok (.iload_n 1, 1) := by decide +kernel
theorem J_MDotRows_square_d2 : decode J_MDotRows_square.2.1 2 = .ok (.iload_n 2, 1) := by decide +kernel
theorem J_MDotRows_square_d3 : decode J_MDotRows_square.2.1 3 = .ok (.invokestatic 124, 3) := by decide +kernel
theorem J_MDotRows_square_d6 : decode J_MDotRows_square.2.1 6 = .ok (.ifCond .ne 35, 3) := by decide +kernel
theorem J_MDotRows_square_d9 : decode J_MDotRows_square.2.1 9 = .ok (.iload_n 3, 1) := by decide +kernel
theorem J_MDotRows_square_d10 : decode J_MDotRows_square.2.1 10 = .ok (.iconst 1, 1) := by decide +kernel
theorem J_MDotRows_square_d11 : decode J_MDotRows_square.2.1 11 = .ok (.sipush 177, 3) := by decide +kernel
theorem J_MDotRows_square_d14 : decode J_MDotRows_square.2.1 14 = .ok (.invokestatic 121, 3) := by decide +kernel
theorem J_MDotRows_square_d17 : decode J_MDotRows_square.2.1 17 = .ok (.ifCond .ne 24, 3) := by decide +kernel
theorem J_MDotRows_square_d20 : decode J_MDotRows_square.2.1 20 = .ok (.iload 4, 2) := by decide +kernel
theorem J_MDotRows_square_d22 : decode J_MDotRows_square.2.1 22 = .ok (.iconst 1, 1) := by decide +kernel
theorem J_MDotRows_square_d23 : decode J_MDotRows_square.2.1 23 = .ok (.bipush 50, 2) := by decide +kernel
theorem J_MDotRows_square_d25 : decode J_MDotRows_square.2.1 25 = .ok (.invokestatic 121, 3) := by decide +kernel
theorem J_MDotRows_square_d28 : decode J_MDotRows_square.2.1 28 = .ok (.ifCond .ne 13, 3) := by decide +kernel
theorem J_MDotRows_square_d31 : decode J_MDotRows_square.2.1 31 = .ok (.iload 5, 2) := by decide +kernel
theorem J_MDotRows_square_d33 : decode J_MDotRows_square.2.1 33 = .ok (.iconst 0, 1) := by decide +kernel
theorem J_MDotRows_square_d34 : decode J_MDotRows_square.2.1 34 = .ok (.iconst 3, 1) := by decide +kernel
theorem J_MDotRows_square_d35 : decode J_MDotRows_square.2.1 35 = .ok (.invokestatic 121, 3) := by decide +kernel
theorem J_MDotRows_square_d38 : decode J_MDotRows_square.2.1 38 = .ok (.ifCond .eq 7, 3) := by decide +kernel
theorem J_MDotRows_square_d41 : decode J_MDotRows_square.2.1 41 = .ok (.iconst 1, 1) := by decide +kernel
theorem J_MDotRows_square_d42 : decode J_MDotRows_square.2.1 42 = .ok (.goto 21, 3) := by decide +kernel
theorem J_MDotRows_square_d45 : decode J_MDotRows_square.2.1 45 = .ok (.bipush 8, 2) := by decide +kernel
theorem J_MDotRows_square_d47 : decode J_MDotRows_square.2.1 47 = .ok (.aload_n 0, 1) := by decide +kernel
theorem J_MDotRows_square_d48 : decode J_MDotRows_square.2.1 48 = .ok (.getfield 47, 3) := by decide +kernel
theorem J_MDotRows_square_d51 : decode J_MDotRows_square.2.1 51 = .ok (.imul, 1) := by decide +kernel
theorem J_MDotRows_square_d52 : decode J_MDotRows_square.2.1 52 = .ok (.iload_n 3, 1) := by decide +kernel
theorem J_MDotRows_square_d53 : decode J_MDotRows_square.2.1 53 = .ok (.iload_n 3, 1) := by decide +kernel
theorem J_MDotRows_square_d54 : decode J_MDotRows_square.2.1 54 = .ok (.imul, 1) := by decide +kernel
theorem J_MDotRows_square_d55 : decode J_MDotRows_square.2.1 55 = .ok (.if_icmp .ge 7, 3) := by decide +kernel
theorem J_MDotRows_square_d58 : decode J_MDotRows_square.2.1 58 = .ok (.iconst 2, 1) := by decide +kernel
theorem J_MDotRows_square_d59 : decode J_MDotRows_square.2.1 59 = .ok (.goto 4, 3) := by decide +kernel
theorem J_MDotRows_square_d62 : decode J_MDotRows_square.2.1 62 = .ok (.iconst 0, 1) := by decide +kernel
theorem J_MDotRows_square_d63 : decode J_MDotRows_square.2.1 63 = .ok (.putfield 37, 3) := by decide +kernel
theorem J_MDotRows_square_d66 : decode J_MDotRows_square.2.1 66 = .ok (.aload_n 0, 1) := by decide +kernel
theorem J_MDotRows_square_d67 : decode J_MDotRows_square.2.1 67 = .ok (.getfield 37, 3) := by decide +kernel
theorem J_MDotRows_square_d70 : decode J_MDotRows_square.2.1 70 = .ok (.ifCond .le 5, 3) := by decide +kernel
theorem J_MDotRows_square_d73 : decode J_MDotRows_square.2.1 73 = .ok (.iconst 0, 1) := by decide +kernel
theorem J_MDotRows_square_d74 : decode J_MDotRows_square.2.1 74 = .ok (.ireturn, 1) := by decide +kernel
theorem J_MDotRows_square_d75 : decode J_MDotRows_square.2.1 75 = .ok (.aload_n 0, 1) := by decide +kernel
theorem J_MDotRows_square_d76 : decode J_MDotRows_square.2.1 76 = .ok (.iload_n 1, 1) := by decide +kernel
theorem J_MDotRows_square_d77 : decode J_MDotRows_square.2.1 77 = .ok (.iload_n 2, 1) := by decide +kernel
theorem J_MDotRows_square_d78 : decode J_MDotRows_square.2.1 78 = .ok (.iload_n 3, 1) := by decide +kernel
theorem J_MDotRows_square_d79 : decode J_MDotRows_square.2.1 79 = .ok (.iload 4, 2) := by decide +kernel
theorem J_MDotRows_square_d81 : decode J_MDotRows_square.2.1 81 = .ok (.iconst 0, 1) := by decide +kernel
theorem J_MDotRows_square_d82 : decode J_MDotRows_square.2.1 82 = .ok (.invokevirtual 130, 3) := by decide +kernel
theorem J_MDotRows_square_d85 : decode J_MDotRows_square.2.1 85 = .ok (.aload_n 0, 1) := by decide +kernel
theorem J_MDotRows_square_d86 : decode J_MDotRows_square.2.1 86 = .ok (.iload 5, 2) := by decide +kernel
theorem J_MDotRows_square_d88 : decode J_MDotRows_square.2.1 88 = .ok (.putfield 75, 3) := by decide +kernel
theorem J_MDotRows_square_d91 : decode J_MDotRows_square.2.1 91 = .ok (.aload_n 0, 1) := by decide +kernel
theorem J_MDotRows_square_d92 : decode J_MDotRows_square.2.1 92 = .ok (.iconst 5, 1) := by decide +kernel
theorem J_MDotRows_square_d93 : decode J_MDotRows_square.2.1 93 = .ok (.invokevirtual 134, 3) := by decide +kernel
theorem J_MDotRows_square_d96 : decode J_MDotRows_square.2.1 96 = .ok (.ireturn, 1) := by decide +kernel
theorem f_MDotRows_square_ok {L : Nat} {xs : Nat → Int32} {dep : Nat} {w : Bool} {p0 : Int32} {p1 : Int32} {p2 : Int32} {p3 : Int32} {p4 : Int32} {M : im_M} {Q : Int32 × im_M → Prop} (hM : lw_S w M) (h : ed (f_MDotRows_square p0 p1 p2 p3 p4 M) Q) : ia (tb_G L xs) (dep + 4) J_MDotRows_square (rwI w Q) (0, lv_args 0 [.ref 89, .int p0, .int p1, .int p2, .int p3, .int p4], [], M) := by
  have hS : im_St (tb_G L xs) (dep + 4) J_MDotRows_square (ia (tb_G L xs) (dep + 4) J_MDotRows_square (rwI w Q)) := ia_St
  unfold f_MDotRows_square at h
  have l0 : im_lk (lv_args 0 [.ref 89, .int p0, .int p1, .int p2, .int p3, .int p4]) 0 = some (.ref 89) := rfl
  have l1 : im_lk (lv_args 0 [.ref 89, .int p0, .int p1, .int p2, .int p3, .int p4]) 1 = some (.int p0) := rfl
  have l2 : im_lk (lv_args 0 [.ref 89, .int p0, .int p1, .int p2, .int p3, .int p4]) 2 = some (.int p1) := rfl
  have l3 : im_lk (lv_args 0 [.ref 89, .int p0, .int p1, .int p2, .int p3, .int p4]) 3 = some (.int p2) := rfl
  have l4 : im_lk (lv_args 0 [.ref 89, .int p0, .int p1, .int p2, .int p3, .int p4]) 4 = some (.int p3) := rfl
  have l5 : im_lk (lv_args 0 [.ref 89, .int p0, .int p1, .int p2, .int p3, .int p4]) 5 = some (.int p4) := rfl
  refine iq_aload_n hS 1 J_MDotRows_square_d0 l0 rfl ?_
  refine iq_iload_n hS 2 J_MDotRows_square_d1 l1 rfl ?_
  refine iq_iload_n hS 3 J_MDotRows_square_d2 l2 rfl ?_
  obtain ⟨Q1, hQ1, h⟩ := bd1_ed h
  refine iq_cpI hS 6 J_MDotRows_square_d3 rfl (pr_stat (vs := [_, _]) lc_12_124 lT_340 rfl rfl (by decide) rfl (Nat.le_of_ble_eq_true rfl) (Nat.le_of_ble_eq_true rfl)) (f_MDotRows_noPlace_ok (dep := dep + 3) hM h) rfl ?_
  intro x1 h
  replace h := hQ1 _ h
  obtain ⟨Q2, hQ2, h⟩ := bd1_ed h
  have J2 : ∀ (y13 : Int32) (L' : List (Nat × Value)), im_lk L' 0 = some (.ref 89) → im_lk L' 1 = some (.int p0) → im_lk L' 2 = some (.int p1) → im_lk L' 3 = some (.int p2) → im_lk L' 4 = some (.int p3) → im_lk L' 5 = some (.int p4) → Q2 y13 → ia (tb_G L xs) (dep + 4) J_MDotRows_square (rwI w Q) (63, L', [.int y13, .ref 89], M) := by
    intro y13 L' l14 l15 l16 l17 l18 l19 h
    replace h := hQ2 _ h
    refine iq_putI hS 66 J_MDotRows_square_d63 lf_12_37 (Or.inl rfl) rfl (ka_89 hM) rfl ?_
    refine iq_aload_n hS 67 J_MDotRows_square_d66 l14 rfl ?_
    refine iq_getI hS 70 J_MDotRows_square_d67 lf_12_37 (Or.inl rfl) (ka_89 (lw_sI hM)) rfl ?_
    refine iq_if_le hS 73 J_MDotRows_square_d70 (t := 75) rfl (fun q70 => ?_) rfl (fun q70 => ?_)
    · replace h := ed_pos q70 h
      refine iq_aload_n hS 76 J_MDotRows_square_d75 l14 rfl ?_
      refine iq_iload_n hS 77 J_MDotRows_square_d76 l15 rfl ?_
      refine iq_iload_n hS 78 J_MDotRows_square_d77 l16 rfl ?_
      refine iq_iload_n hS 79 J_MDotRows_square_d78 l17 rfl ?_
      refine iq_iload hS 81 J_MDotRows_square_d79 l18 rfl ?_
      refine iq_iconst hS 82 J_MDotRows_square_d81 (v := 0) (by decide +kernel) rfl ?_
      obtain ⟨Q20, hQ20, h⟩ := bd1_ed h
      refine iq_cwV hS 85 J_MDotRows_square_d82 rfl (pr_inst (vs := [_, _, _, _, _]) lc_12_130 lT_341 rfl rfl (by decide) (by decide) rfl (Nat.le_of_ble_eq_true rfl) (Nat.le_of_ble_eq_true rfl) (fun _ => Or.inl (pr_b (ka_89 (lw_sI hM)) (by decide) rfl))) (f_MDotRows_at_ok (dep := dep + 3) (lw_sI hM) h) rfl ?_
      intro M20 hM20 h
      replace h := hQ20 _ h
      refine iq_aload_n hS 86 J_MDotRows_square_d85 l14 rfl ?_
      refine iq_iload hS 88 J_MDotRows_square_d86 l19 rfl ?_
      refine iq_putI hS 91 J_MDotRows_square_d88 lf_12_75 (Or.inl rfl) rfl (ka_89 hM20) rfl ?_
      refine iq_aload_n hS 92 J_MDotRows_square_d91 l14 rfl ?_
      refine iq_iconst hS 93 J_MDotRows_square_d92 (v := 5) (by decide +kernel) rfl ?_
      obtain ⟨Q21, hQ21, h⟩ := bd2_ed h
      refine iq_cwI hS 96 J_MDotRows_square_d93 rfl (pr_inst (vs := [_]) lc_12_134 lT_342 rfl rfl (by decide) (by decide) rfl (Nat.le_of_ble_eq_true rfl) (Nat.le_of_ble_eq_true rfl) (fun _ => Or.inl (pr_b (ka_89 (lw_sI hM20)) (by decide) rfl))) (f_MDotRows_draw_ok (dep := dep + 0) (lw_sI hM20) h) rfl ?_
      intro x21 M21 hM21 h
      replace h := hQ21 _ _ h
      exact iq_iret J_MDotRows_square_d96 rfl rfl ⟨_, rfl, hM21, ed_some h⟩
    · replace h := ed_neg q70 h
      refine iq_iconst hS 74 J_MDotRows_square_d73 (v := 0) (by decide +kernel) rfl ?_
      exact iq_iret J_MDotRows_square_d74 rfl rfl ⟨_, rfl, (lw_sI hM), ed_some h⟩
  obtain ⟨k3, Q3, hQ3, hk3, h⟩ := jn0_ed h
  have J3 : ∀  (L' : List (Nat × Value)), im_lk L' 0 = some (.ref 89) → im_lk L' 1 = some (.int p0) → im_lk L' 2 = some (.int p1) → im_lk L' 3 = some (.int p2) → im_lk L' 4 = some (.int p3) → im_lk L' 5 = some (.int p4) → Q3 () → ia (tb_G L xs) (dep + 4) J_MDotRows_square (rwI w Q) (41, L', [.ref 89], M) := by
    intro  L' l7 l8 l9 l10 l11 l12 h
    replace h := hQ3  h
    refine iq_iconst hS 42 J_MDotRows_square_d41 (v := 1) (by decide +kernel) rfl ?_
    refine iq_goto hS J_MDotRows_square_d42 (t := 63) rfl ?_
    exact J2 _ _ l7 l8 l9 l10 l11 l12 (ed_some h)
  refine iq_if_ne hS 9 J_MDotRows_square_d6 (t := 41) rfl (fun q6 => ?_) rfl (fun q6 => ?_)
  · replace h := ed_pos q6 h
    exact J3  _ l0 l1 l2 l3 l4 l5 (hk3  h)
  · replace h := ed_neg q6 h
    refine iq_iload_n hS 10 J_MDotRows_square_d9 l3 rfl ?_
    refine iq_iconst hS 11 J_MDotRows_square_d10 (v := 1) (by decide +kernel) rfl ?_
    refine iq_sipush hS 14 J_MDotRows_square_d11 (v := 177) (by decide +kernel) rfl ?_
    obtain ⟨Q4, hQ4, h⟩ := bd1_ed h
    refine iq_cpI hS 17 J_MDotRows_square_d14 rfl (pr_stat (vs := [_, _, _]) lc_12_121 lT_273 rfl rfl (by decide) rfl (Nat.le_of_ble_eq_true rfl) (Nat.le_of_ble_eq_true rfl)) (f_MDotRows_isNot_ok (dep := dep + 3) hM h) rfl ?_
    intro x4 h
    replace h := hQ4 _ h
    refine iq_if_ne hS 20 J_MDotRows_square_d17 (t := 41) rfl (fun q17 => ?_) rfl (fun q17 => ?_)
    · replace h := ed_pos q17 h
      exact J3  _ l0 l1 l2 l3 l4 l5 (hk3  h)
    · replace h := ed_neg q17 h
      refine iq_iload hS 22 J_MDotRows_square_d20 l4 rfl ?_
      refine iq_iconst hS 23 J_MDotRows_square_d22 (v := 1) (by decide +kernel) rfl ?_
      refine iq_bipush hS 25 J_MDotRows_square_d23 (v := 50) (by decide +kernel) rfl ?_
      obtain ⟨Q5, hQ5, h⟩ := bd1_ed h
      refine iq_cpI hS 28 J_MDotRows_square_d25 rfl (pr_stat (vs := [_, _, _]) lc_12_121 lT_273 rfl rfl (by decide) rfl (Nat.le_of_ble_eq_true rfl) (Nat.le_of_ble_eq_true rfl)) (f_MDotRows_isNot_ok (dep := dep + 3) hM h) rfl ?_
      intro x5 h
      replace h := hQ5 _ h
      refine iq_if_ne hS 31 J_MDotRows_square_d28 (t := 41) rfl (fun q28 => ?_) rfl (fun q28 => ?_)
      · replace h := ed_pos q28 h
        exact J3  _ l0 l1 l2 l3 l4 l5 (hk3  h)
      · replace h := ed_neg q28 h
        refine iq_iload hS 33 J_MDotRows_square_d31 l5 rfl ?_
        refine iq_iconst hS 34 J_MDotRows_square_d33 (v := 0) (by decide +kernel) rfl ?_
        refine iq_iconst hS 35 J_MDotRows_square_d34 (v := 3) (by decide +kernel) rfl ?_
        obtain ⟨Q6, hQ6, h⟩ := bd1_ed h
        refine iq_cpI hS 38 J_MDotRows_square_d35 rfl (pr_stat (vs := [_, _, _]) lc_12_121 lT_273 rfl rfl (by decide) rfl (Nat.le_of_ble_eq_true rfl) (Nat.le_of_ble_eq_true rfl)) (f_MDotRows_isNot_ok (dep := dep + 3) hM h) rfl ?_
        intro x6 h
        replace h := hQ6 _ h
        refine iq_if_eq hS 41 J_MDotRows_square_d38 (t := 45) rfl (fun q38 => ?_) rfl (fun q38 => ?_)
        · replace h := ed_pos q38 h
          refine iq_bipush hS 47 J_MDotRows_square_d45 (v := 8) (by decide +kernel) rfl ?_
          refine iq_aload_n hS 48 J_MDotRows_square_d47 l0 rfl ?_
          refine iq_getI hS 51 J_MDotRows_square_d48 lf_12_47 (Or.inl rfl) (ka_89 hM) rfl ?_
          refine iq_imul hS 52 J_MDotRows_square_d51 rfl ?_
          refine iq_iload_n hS 53 J_MDotRows_square_d52 l3 rfl ?_
          refine iq_iload_n hS 54 J_MDotRows_square_d53 l3 rfl ?_
          refine iq_imul hS 55 J_MDotRows_square_d54 rfl ?_
          refine iq_icmp_ge hS 58 J_MDotRows_square_d55 (t := 62) rfl (fun q55 => ?_) rfl (fun q55 => ?_)
          · replace h := ed_pos q55 h
            refine iq_iconst hS 63 J_MDotRows_square_d62 (v := 0) (by decide +kernel) rfl ?_
            exact J2 _ _ l0 l1 l2 l3 l4 l5 (ed_some h)
          · replace h := ed_neg q55 h
            refine iq_iconst hS 59 J_MDotRows_square_d58 (v := 2) (by decide +kernel) rfl ?_
            refine iq_goto hS J_MDotRows_square_d59 (t := 63) rfl ?_
            exact J2 _ _ l0 l1 l2 l3 l4 l5 (ed_some h)
        · replace h := ed_neg q38 h
          exact J3  _ l0 l1 l2 l3 l4 l5 (hk3  h)
theorem f_MDotRows_square_fr {p0 : Int32} {p1 : Int32} {p2 : Int32} {p3 : Int32} {p4 : Int32} {M : im_M} {r : Int32 × im_M} (h : f_MDotRows_square p0 p1 p2 p3 p4 M = some r) : fr 1237940039285380274899124224 [(89, 0), (89, 10), (89, 11), (89, 12), (89, 13), (89, 14), (89, 15)] M r.2 := by
  replace h : ed (f_MDotRows_square p0 p1 p2 p3 p4 M) (fun x => x = r) := ⟨r, h, rfl⟩
  unfold f_MDotRows_square at h
  obtain ⟨Q1, hQ1, h⟩ := bd1_ed h
  obtain ⟨x1, e1, h⟩ := h
  replace h := hQ1 _ h
  obtain ⟨Q2, hQ2, h⟩ := bd1_ed h
  have J2 : ∀ (y13 : Int32), Q2 y13 → fr 1237940039285380274899124224 [(89, 0), (89, 10), (89, 11), (89, 12), (89, 13), (89, 14), (89, 15)] M r.2 := by
    intro y13 h
    replace h := hQ2 _ h
    by_cases q70 : (im_i (im_setI M 89 0 y13) 89 0) ≤ 0
    · replace h := ed_pos q70 h
      obtain ⟨Q20, hQ20, h⟩ := bd1_ed h
      obtain ⟨M20, e20, h⟩ := h
      replace h := hQ20 _ h
      obtain ⟨Q21, hQ21, h⟩ := bd2_ed h
      obtain ⟨⟨x21, M21⟩, e21, h⟩ := h
      replace h := hQ21 _ _ h
      exact fr_ret h (fr_tr (fr_mono (by decide) (by decide +kernel) (f_MDotRows_draw_fr e21)) (fr_F (by decide) (fr_tr (fr_mono (by decide) (by decide +kernel) (f_MDotRows_at_fr e20)) (fr_F (by decide) fr_refl))))
    · replace h := ed_neg q70 h
      exact fr_ret h (fr_F (by decide) fr_refl)
  obtain ⟨k3, Q3, hQ3, hk3, h⟩ := jn0_ed h
  have J3 : Q3 () → fr 1237940039285380274899124224 [(89, 0), (89, 10), (89, 11), (89, 12), (89, 13), (89, 14), (89, 15)] M r.2 := by
    intro  h
    replace h := hQ3  h
    exact J2 _ (ed_some h)
  by_cases q6 : ¬ x1 = 0
  · replace h := ed_pos q6 h
    exact J3  (hk3  h)
  · replace h := ed_neg q6 h
    obtain ⟨Q4, hQ4, h⟩ := bd1_ed h
    obtain ⟨x4, e4, h⟩ := h
    replace h := hQ4 _ h
    by_cases q17 : ¬ x4 = 0
    · replace h := ed_pos q17 h
      exact J3  (hk3  h)
    · replace h := ed_neg q17 h
      obtain ⟨Q5, hQ5, h⟩ := bd1_ed h
      obtain ⟨x5, e5, h⟩ := h
      replace h := hQ5 _ h
      by_cases q28 : ¬ x5 = 0
      · replace h := ed_pos q28 h
        exact J3  (hk3  h)
      · replace h := ed_neg q28 h
        obtain ⟨Q6, hQ6, h⟩ := bd1_ed h
        obtain ⟨x6, e6, h⟩ := h
        replace h := hQ6 _ h
        by_cases q38 : x6 = 0
        · replace h := ed_pos q38 h
          by_cases q55 : (p2 * p2) ≤ ((8 : Int32) * (im_i M 89 7))
          · replace h := ed_pos q55 h
            exact J2 _ (ed_some h)
          · replace h := ed_neg q55 h
            exact J2 _ (ed_some h)
        · replace h := ed_neg q38 h
          exact J3  (hk3  h)
noncomputable def f_MDotRows_noRing (p0 : Int32) (p1 : Int32) (p2 : Int32) (M : im_M) : Option (Int32) := bd1 (f_MDotRows_isNot p0 1 2048 M) fun (x1 : Int32) => jn0 (fun (_ : Unit) => some 1) fun k2 => if ¬ x1 = 0 then k2 () else bd1 (f_MDotRows_isNot p1 1 2048 M) fun (x3 : Int32) => if ¬ x3 = 0 then k2 () else bd1 (f_MDotRows_isNot p2 1 200 M) fun (x4 : Int32) => if x4 = 0 then some 0 else k2 ()
theorem J_MDotRows_noRing_d0 : decode J_MDotRows_noRing.2.1 0 = .ok (.iload_n 0, 1) := by decide +kernel
theorem J_MDotRows_noRing_d1 : decode J_MDotRows_noRing.2.1 1 = .ok (.iconst 1, 1) := by decide +kernel
theorem J_MDotRows_noRing_d2 : decode J_MDotRows_noRing.2.1 2 = .ok (.sipush 2048, 3) := by decide +kernel
theorem J_MDotRows_noRing_d5 : decode J_MDotRows_noRing.2.1 5 = .ok (.invokestatic 121, 3) := by decide +kernel
theorem J_MDotRows_noRing_d8 : decode J_MDotRows_noRing.2.1 8 = .ok (.ifCond .ne 25, 3) := by decide +kernel
theorem J_MDotRows_noRing_d11 : decode J_MDotRows_noRing.2.1 11 = .ok (.iload_n 1, 1) := by decide +kernel
theorem J_MDotRows_noRing_d12 : decode J_MDotRows_noRing.2.1 12 = .ok (.iconst 1, 1) := by decide +kernel
theorem J_MDotRows_noRing_d13 : decode J_MDotRows_noRing.2.1 13 = .ok (.sipush 2048, 3) := by decide +kernel
theorem J_MDotRows_noRing_d16 : decode J_MDotRows_noRing.2.1 16 = .ok (.invokestatic 121, 3) := by decide +kernel
theorem J_MDotRows_noRing_d19 : decode J_MDotRows_noRing.2.1 19 = .ok (.ifCond .ne 14, 3) := by decide +kernel
theorem J_MDotRows_noRing_d22 : decode J_MDotRows_noRing.2.1 22 = .ok (.iload_n 2, 1) := by decide +kernel
theorem J_MDotRows_noRing_d23 : decode J_MDotRows_noRing.2.1 23 = .ok (.iconst 1, 1) := by decide +kernel
theorem J_MDotRows_noRing_d24 : decode J_MDotRows_noRing.2.1 24 = .ok (.sipush 200, 3) := by decide +kernel
theorem J_MDotRows_noRing_d27 : decode J_MDotRows_noRing.2.1 27 = .ok (.invokestatic 121, 3) := by decide +kernel
theorem J_MDotRows_noRing_d30 : decode J_MDotRows_noRing.2.1 30 = .ok (.ifCond .eq 7, 3) := by decide +kernel
theorem J_MDotRows_noRing_d33 : decode J_MDotRows_noRing.2.1 33 = .ok (.iconst 1, 1) := by decide +kernel
theorem J_MDotRows_noRing_d34 : decode J_MDotRows_noRing.2.1 34 = .ok (.goto 4, 3) := by decide +kernel
theorem J_MDotRows_noRing_d37 : decode J_MDotRows_noRing.2.1 37 = .ok (.iconst 0, 1) := by decide +kernel
theorem J_MDotRows_noRing_d38 : decode J_MDotRows_noRing.2.1 38 = .ok (.ireturn, 1) := by decide +kernel
theorem f_MDotRows_noRing_ok {L : Nat} {xs : Nat → Int32} {dep : Nat} {w : Bool} {p0 : Int32} {p1 : Int32} {p2 : Int32} {M : im_M} {Q : Int32 → Prop} (hM : lw_S w M) (h : ed (f_MDotRows_noRing p0 p1 p2 M) Q) : ia (tb_G L xs) (dep + 1) J_MDotRows_noRing (rpI M Q) (0, lv_args 0 [.int p0, .int p1, .int p2], [], M) := by
  have hS : im_St (tb_G L xs) (dep + 1) J_MDotRows_noRing (ia (tb_G L xs) (dep + 1) J_MDotRows_noRing (rpI M Q)) := ia_St
  unfold f_MDotRows_noRing at h
  have l0 : im_lk (lv_args 0 [.int p0, .int p1, .int p2]) 0 = some (.int p0) := rfl
  have l1 : im_lk (lv_args 0 [.int p0, .int p1, .int p2]) 1 = some (.int p1) := rfl
  have l2 : im_lk (lv_args 0 [.int p0, .int p1, .int p2]) 2 = some (.int p2) := rfl
  refine iq_iload_n hS 1 J_MDotRows_noRing_d0 l0 rfl ?_
  refine iq_iconst hS 2 J_MDotRows_noRing_d1 (v := 1) (by decide +kernel) rfl ?_
  refine iq_sipush hS 5 J_MDotRows_noRing_d2 (v := 2048) (by decide +kernel) rfl ?_
  obtain ⟨Q1, hQ1, h⟩ := bd1_ed h
  refine iq_cpI hS 8 J_MDotRows_noRing_d5 rfl (pr_stat (vs := [_, _, _]) lc_12_121 lT_273 rfl rfl (by decide) rfl (Nat.le_of_ble_eq_true rfl) (Nat.le_of_ble_eq_true rfl)) (f_MDotRows_isNot_ok (dep := dep + 0) hM h) rfl ?_
  intro x1 h
  replace h := hQ1 _ h
  obtain ⟨k2, Q2, hQ2, hk2, h⟩ := jn0_ed h
  have J2 : ∀  (L' : List (Nat × Value)), Q2 () → ia (tb_G L xs) (dep + 1) J_MDotRows_noRing (rpI M Q) (33, L', [], M) := by
    intro  L'  h
    replace h := hQ2  h
    refine iq_iconst hS 34 J_MDotRows_noRing_d33 (v := 1) (by decide +kernel) rfl ?_
    refine iq_goto hS J_MDotRows_noRing_d34 (t := 38) rfl ?_
    exact iq_iret J_MDotRows_noRing_d38 rfl rfl ⟨_, rfl, rfl, ed_some h⟩
  refine iq_if_ne hS 11 J_MDotRows_noRing_d8 (t := 33) rfl (fun q8 => ?_) rfl (fun q8 => ?_)
  · replace h := ed_pos q8 h
    exact J2  _  (hk2  h)
  · replace h := ed_neg q8 h
    refine iq_iload_n hS 12 J_MDotRows_noRing_d11 l1 rfl ?_
    refine iq_iconst hS 13 J_MDotRows_noRing_d12 (v := 1) (by decide +kernel) rfl ?_
    refine iq_sipush hS 16 J_MDotRows_noRing_d13 (v := 2048) (by decide +kernel) rfl ?_
    obtain ⟨Q3, hQ3, h⟩ := bd1_ed h
    refine iq_cpI hS 19 J_MDotRows_noRing_d16 rfl (pr_stat (vs := [_, _, _]) lc_12_121 lT_273 rfl rfl (by decide) rfl (Nat.le_of_ble_eq_true rfl) (Nat.le_of_ble_eq_true rfl)) (f_MDotRows_isNot_ok (dep := dep + 0) hM h) rfl ?_
    intro x3 h
    replace h := hQ3 _ h
    refine iq_if_ne hS 22 J_MDotRows_noRing_d19 (t := 33) rfl (fun q19 => ?_) rfl (fun q19 => ?_)
    · replace h := ed_pos q19 h
      exact J2  _  (hk2  h)
    · replace h := ed_neg q19 h
      refine iq_iload_n hS 23 J_MDotRows_noRing_d22 l2 rfl ?_
      refine iq_iconst hS 24 J_MDotRows_noRing_d23 (v := 1) (by decide +kernel) rfl ?_
      refine iq_sipush hS 27 J_MDotRows_noRing_d24 (v := 200) (by decide +kernel) rfl ?_
      obtain ⟨Q4, hQ4, h⟩ := bd1_ed h
      refine iq_cpI hS 30 J_MDotRows_noRing_d27 rfl (pr_stat (vs := [_, _, _]) lc_12_121 lT_273 rfl rfl (by decide) rfl (Nat.le_of_ble_eq_true rfl) (Nat.le_of_ble_eq_true rfl)) (f_MDotRows_isNot_ok (dep := dep + 0) hM h) rfl ?_
      intro x4 h
      replace h := hQ4 _ h
      refine iq_if_eq hS 33 J_MDotRows_noRing_d30 (t := 37) rfl (fun q30 => ?_) rfl (fun q30 => ?_)
      · replace h := ed_pos q30 h
        refine iq_iconst hS 38 J_MDotRows_noRing_d37 (v := 0) (by decide +kernel) rfl ?_
        exact iq_iret J_MDotRows_noRing_d38 rfl rfl ⟨_, rfl, rfl, ed_some h⟩
      · replace h := ed_neg q30 h
        exact J2  _  (hk2  h)
noncomputable def f_MDotRows_frame (p0 : Int32) (p1 : Int32) (p2 : Int32) (p3 : Int32) (p4 : Int32) (M : im_M) : Option (Int32 × im_M) := bd1 (f_MDotRows_noPlace p0 p1 M) fun (x1 : Int32) => bd1 (jn0 (fun (_ : Unit) => some 1) fun k3 => if ¬ x1 = 0 then k3 () else bd1 (f_MDotRows_noRing p2 p3 p4 M) fun (x4 : Int32) => if x4 = 0 then some 0 else k3 ()) fun (y11 : Int32) => if (im_i (im_setI M 89 0 y11) 89 0) ≤ 0 then bd1 (f_MDotRows_at p0 p1 p2 p3 p4 (im_setI M 89 0 y11)) fun (M18 : im_M) => bd2 (f_MDotRows_draw 0 M18) fun (x19 : Int32) (M19 : im_M) => some (x19, M19) else some (0, (im_setI M 89 0 y11))
theorem J_MDotRows_frame_d0 : decode J_MDotRows_frame.2.1 0 = .ok (.aload_n 0, 1) := by decide +kernel
theorem J_MDotRows_frame_d1 : decode J_MDotRows_frame.2.1 1 = .ok (.iload_n 1, 1) := by decide +kernel
theorem J_MDotRows_frame_d2 : decode J_MDotRows_frame.2.1 2 = .ok (.iload_n 2, 1) := by decide +kernel
theorem J_MDotRows_frame_d3 : decode J_MDotRows_frame.2.1 3 = .ok (.invokestatic 124, 3) := by decide +kernel
theorem J_MDotRows_frame_d6 : decode J_MDotRows_frame.2.1 6 = .ok (.ifCond .ne 14, 3) := by decide +kernel
theorem J_MDotRows_frame_d9 : decode J_MDotRows_frame.2.1 9 = .ok (.iload_n 3, 1) := by decide +kernel
theorem J_MDotRows_frame_d10 : decode J_MDotRows_frame.2.1 10 = .ok (.iload 4, 2) := by decide +kernel
theorem J_MDotRows_frame_d12 : decode J_MDotRows_frame.2.1 12 = .ok (.iload 5, 2) := by decide +kernel
theorem J_MDotRows_frame_d14 : decode J_MDotRows_frame.2.1 14 = .ok (.invokestatic 127, 3) := by decide +kernel
theorem J_MDotRows_frame_d17 : decode J_MDotRows_frame.2.1 17 = .ok (.ifCond .eq 7, 3) := by decide +kernel
theorem J_MDotRows_frame_d20 : decode J_MDotRows_frame.2.1 20 = .ok (.iconst 1, 1) := by decide +kernel
theorem J_MDotRows_frame_d21 : decode J_MDotRows_frame.2.1 21 = .ok (.goto 4, 3) := by decide +kernel
theorem J_MDotRows_frame_d24 : decode J_MDotRows_frame.2.1 24 = .ok (.iconst 0, 1) := by decide +kernel
theorem J_MDotRows_frame_d25 : decode J_MDotRows_frame.2.1 25 = .ok (.putfield 37, 3) := by decide +kernel
theorem J_MDotRows_frame_d28 : decode J_MDotRows_frame.2.1 28 = .ok (.aload_n 0, 1) := by decide +kernel
theorem J_MDotRows_frame_d29 : decode J_MDotRows_frame.2.1 29 = .ok (.getfield 37, 3) := by decide +kernel
theorem J_MDotRows_frame_d32 : decode J_MDotRows_frame.2.1 32 = .ok (.ifCond .le 5, 3) := by decide +kernel
theorem J_MDotRows_frame_d35 : decode J_MDotRows_frame.2.1 35 = .ok (.iconst 0, 1) := by decide +kernel
theorem J_MDotRows_frame_d36 : decode J_MDotRows_frame.2.1 36 = .ok (.ireturn, 1) := by decide +kernel
theorem J_MDotRows_frame_d37 : decode J_MDotRows_frame.2.1 37 = .ok (.aload_n 0, 1) := by decide +kernel
theorem J_MDotRows_frame_d38 : decode J_MDotRows_frame.2.1 38 = .ok (.iload_n 1, 1) := by decide +kernel
theorem J_MDotRows_frame_d39 : decode J_MDotRows_frame.2.1 39 = .ok (.iload_n 2, 1) := by decide +kernel
theorem J_MDotRows_frame_d40 : decode J_MDotRows_frame.2.1 40 = .ok (.iload_n 3, 1) := by decide +kernel
theorem J_MDotRows_frame_d41 : decode J_MDotRows_frame.2.1 41 = .ok (.iload 4, 2) := by decide +kernel
theorem J_MDotRows_frame_d43 : decode J_MDotRows_frame.2.1 43 = .ok (.iload 5, 2) := by decide +kernel
theorem J_MDotRows_frame_d45 : decode J_MDotRows_frame.2.1 45 = .ok (.invokevirtual 130, 3) := by decide +kernel
theorem J_MDotRows_frame_d48 : decode J_MDotRows_frame.2.1 48 = .ok (.aload_n 0, 1) := by decide +kernel
theorem J_MDotRows_frame_d49 : decode J_MDotRows_frame.2.1 49 = .ok (.iconst 0, 1) := by decide +kernel
theorem J_MDotRows_frame_d50 : decode J_MDotRows_frame.2.1 50 = .ok (.invokevirtual 134, 3) := by decide +kernel
theorem J_MDotRows_frame_d53 : decode J_MDotRows_frame.2.1 53 = .ok (.ireturn, 1) := by decide +kernel
theorem f_MDotRows_frame_ok {L : Nat} {xs : Nat → Int32} {dep : Nat} {w : Bool} {p0 : Int32} {p1 : Int32} {p2 : Int32} {p3 : Int32} {p4 : Int32} {M : im_M} {Q : Int32 × im_M → Prop} (hM : lw_S w M) (h : ed (f_MDotRows_frame p0 p1 p2 p3 p4 M) Q) : ia (tb_G L xs) (dep + 4) J_MDotRows_frame (rwI w Q) (0, lv_args 0 [.ref 89, .int p0, .int p1, .int p2, .int p3, .int p4], [], M) := by
  have hS : im_St (tb_G L xs) (dep + 4) J_MDotRows_frame (ia (tb_G L xs) (dep + 4) J_MDotRows_frame (rwI w Q)) := ia_St
  unfold f_MDotRows_frame at h
  have l0 : im_lk (lv_args 0 [.ref 89, .int p0, .int p1, .int p2, .int p3, .int p4]) 0 = some (.ref 89) := rfl
  have l1 : im_lk (lv_args 0 [.ref 89, .int p0, .int p1, .int p2, .int p3, .int p4]) 1 = some (.int p0) := rfl
  have l2 : im_lk (lv_args 0 [.ref 89, .int p0, .int p1, .int p2, .int p3, .int p4]) 2 = some (.int p1) := rfl
  have l3 : im_lk (lv_args 0 [.ref 89, .int p0, .int p1, .int p2, .int p3, .int p4]) 3 = some (.int p2) := rfl
  have l4 : im_lk (lv_args 0 [.ref 89, .int p0, .int p1, .int p2, .int p3, .int p4]) 4 = some (.int p3) := rfl
  have l5 : im_lk (lv_args 0 [.ref 89, .int p0, .int p1, .int p2, .int p3, .int p4]) 5 = some (.int p4) := rfl
  refine iq_aload_n hS 1 J_MDotRows_frame_d0 l0 rfl ?_
  refine iq_iload_n hS 2 J_MDotRows_frame_d1 l1 rfl ?_
  refine iq_iload_n hS 3 J_MDotRows_frame_d2 l2 rfl ?_
  obtain ⟨Q1, hQ1, h⟩ := bd1_ed h
  refine iq_cpI hS 6 J_MDotRows_frame_d3 rfl (pr_stat (vs := [_, _]) lc_12_124 lT_340 rfl rfl (by decide) rfl (Nat.le_of_ble_eq_true rfl) (Nat.le_of_ble_eq_true rfl)) (f_MDotRows_noPlace_ok (dep := dep + 3) hM h) rfl ?_
  intro x1 h
  replace h := hQ1 _ h
  obtain ⟨Q2, hQ2, h⟩ := bd1_ed h
  have J2 : ∀ (y11 : Int32) (L' : List (Nat × Value)), im_lk L' 0 = some (.ref 89) → im_lk L' 1 = some (.int p0) → im_lk L' 2 = some (.int p1) → im_lk L' 3 = some (.int p2) → im_lk L' 4 = some (.int p3) → im_lk L' 5 = some (.int p4) → Q2 y11 → ia (tb_G L xs) (dep + 4) J_MDotRows_frame (rwI w Q) (25, L', [.int y11, .ref 89], M) := by
    intro y11 L' l12 l13 l14 l15 l16 l17 h
    replace h := hQ2 _ h
    refine iq_putI hS 28 J_MDotRows_frame_d25 lf_12_37 (Or.inl rfl) rfl (ka_89 hM) rfl ?_
    refine iq_aload_n hS 29 J_MDotRows_frame_d28 l12 rfl ?_
    refine iq_getI hS 32 J_MDotRows_frame_d29 lf_12_37 (Or.inl rfl) (ka_89 (lw_sI hM)) rfl ?_
    refine iq_if_le hS 35 J_MDotRows_frame_d32 (t := 37) rfl (fun q32 => ?_) rfl (fun q32 => ?_)
    · replace h := ed_pos q32 h
      refine iq_aload_n hS 38 J_MDotRows_frame_d37 l12 rfl ?_
      refine iq_iload_n hS 39 J_MDotRows_frame_d38 l13 rfl ?_
      refine iq_iload_n hS 40 J_MDotRows_frame_d39 l14 rfl ?_
      refine iq_iload_n hS 41 J_MDotRows_frame_d40 l15 rfl ?_
      refine iq_iload hS 43 J_MDotRows_frame_d41 l16 rfl ?_
      refine iq_iload hS 45 J_MDotRows_frame_d43 l17 rfl ?_
      obtain ⟨Q18, hQ18, h⟩ := bd1_ed h
      refine iq_cwV hS 48 J_MDotRows_frame_d45 rfl (pr_inst (vs := [_, _, _, _, _]) lc_12_130 lT_341 rfl rfl (by decide) (by decide) rfl (Nat.le_of_ble_eq_true rfl) (Nat.le_of_ble_eq_true rfl) (fun _ => Or.inl (pr_b (ka_89 (lw_sI hM)) (by decide) rfl))) (f_MDotRows_at_ok (dep := dep + 3) (lw_sI hM) h) rfl ?_
      intro M18 hM18 h
      replace h := hQ18 _ h
      refine iq_aload_n hS 49 J_MDotRows_frame_d48 l12 rfl ?_
      refine iq_iconst hS 50 J_MDotRows_frame_d49 (v := 0) (by decide +kernel) rfl ?_
      obtain ⟨Q19, hQ19, h⟩ := bd2_ed h
      refine iq_cwI hS 53 J_MDotRows_frame_d50 rfl (pr_inst (vs := [_]) lc_12_134 lT_342 rfl rfl (by decide) (by decide) rfl (Nat.le_of_ble_eq_true rfl) (Nat.le_of_ble_eq_true rfl) (fun _ => Or.inl (pr_b (ka_89 hM18) (by decide) rfl))) (f_MDotRows_draw_ok (dep := dep + 0) hM18 h) rfl ?_
      intro x19 M19 hM19 h
      replace h := hQ19 _ _ h
      exact iq_iret J_MDotRows_frame_d53 rfl rfl ⟨_, rfl, hM19, ed_some h⟩
    · replace h := ed_neg q32 h
      refine iq_iconst hS 36 J_MDotRows_frame_d35 (v := 0) (by decide +kernel) rfl ?_
      exact iq_iret J_MDotRows_frame_d36 rfl rfl ⟨_, rfl, (lw_sI hM), ed_some h⟩
  obtain ⟨k3, Q3, hQ3, hk3, h⟩ := jn0_ed h
  have J3 : ∀  (L' : List (Nat × Value)), im_lk L' 0 = some (.ref 89) → im_lk L' 1 = some (.int p0) → im_lk L' 2 = some (.int p1) → im_lk L' 3 = some (.int p2) → im_lk L' 4 = some (.int p3) → im_lk L' 5 = some (.int p4) → Q3 () → ia (tb_G L xs) (dep + 4) J_MDotRows_frame (rwI w Q) (20, L', [.ref 89], M) := by
    intro  L' l5 l6 l7 l8 l9 l10 h
    replace h := hQ3  h
    refine iq_iconst hS 21 J_MDotRows_frame_d20 (v := 1) (by decide +kernel) rfl ?_
    refine iq_goto hS J_MDotRows_frame_d21 (t := 25) rfl ?_
    exact J2 _ _ l5 l6 l7 l8 l9 l10 (ed_some h)
  refine iq_if_ne hS 9 J_MDotRows_frame_d6 (t := 20) rfl (fun q6 => ?_) rfl (fun q6 => ?_)
  · replace h := ed_pos q6 h
    exact J3  _ l0 l1 l2 l3 l4 l5 (hk3  h)
  · replace h := ed_neg q6 h
    refine iq_iload_n hS 10 J_MDotRows_frame_d9 l3 rfl ?_
    refine iq_iload hS 12 J_MDotRows_frame_d10 l4 rfl ?_
    refine iq_iload hS 14 J_MDotRows_frame_d12 l5 rfl ?_
    obtain ⟨Q4, hQ4, h⟩ := bd1_ed h
    refine iq_cpI hS 17 J_MDotRows_frame_d14 rfl (pr_stat (vs := [_, _, _]) lc_12_127 lT_436 rfl rfl (by decide) rfl (Nat.le_of_ble_eq_true rfl) (Nat.le_of_ble_eq_true rfl)) (f_MDotRows_noRing_ok (dep := dep + 2) hM h) rfl ?_
    intro x4 h
    replace h := hQ4 _ h
    refine iq_if_eq hS 20 J_MDotRows_frame_d17 (t := 24) rfl (fun q17 => ?_) rfl (fun q17 => ?_)
    · replace h := ed_pos q17 h
      refine iq_iconst hS 25 J_MDotRows_frame_d24 (v := 0) (by decide +kernel) rfl ?_
      exact J2 _ _ l0 l1 l2 l3 l4 l5 (ed_some h)
    · replace h := ed_neg q17 h
      exact J3  _ l0 l1 l2 l3 l4 l5 (hk3  h)
theorem f_MDotRows_frame_fr {p0 : Int32} {p1 : Int32} {p2 : Int32} {p3 : Int32} {p4 : Int32} {M : im_M} {r : Int32 × im_M} (h : f_MDotRows_frame p0 p1 p2 p3 p4 M = some r) : fr 1237940039285380274899124224 [(89, 0), (89, 10), (89, 11), (89, 12), (89, 13), (89, 14)] M r.2 := by
  replace h : ed (f_MDotRows_frame p0 p1 p2 p3 p4 M) (fun x => x = r) := ⟨r, h, rfl⟩
  unfold f_MDotRows_frame at h
  obtain ⟨Q1, hQ1, h⟩ := bd1_ed h
  obtain ⟨x1, e1, h⟩ := h
  replace h := hQ1 _ h
  obtain ⟨Q2, hQ2, h⟩ := bd1_ed h
  have J2 : ∀ (y11 : Int32), Q2 y11 → fr 1237940039285380274899124224 [(89, 0), (89, 10), (89, 11), (89, 12), (89, 13), (89, 14)] M r.2 := by
    intro y11 h
    replace h := hQ2 _ h
    by_cases q32 : (im_i (im_setI M 89 0 y11) 89 0) ≤ 0
    · replace h := ed_pos q32 h
      obtain ⟨Q18, hQ18, h⟩ := bd1_ed h
      obtain ⟨M18, e18, h⟩ := h
      replace h := hQ18 _ h
      obtain ⟨Q19, hQ19, h⟩ := bd2_ed h
      obtain ⟨⟨x19, M19⟩, e19, h⟩ := h
      replace h := hQ19 _ _ h
      exact fr_ret h (fr_tr (fr_mono (by decide) (by decide +kernel) (f_MDotRows_draw_fr e19)) (fr_tr (fr_mono (by decide) (by decide +kernel) (f_MDotRows_at_fr e18)) (fr_F (by decide) fr_refl)))
    · replace h := ed_neg q32 h
      exact fr_ret h (fr_F (by decide) fr_refl)
  obtain ⟨k3, Q3, hQ3, hk3, h⟩ := jn0_ed h
  have J3 : Q3 () → fr 1237940039285380274899124224 [(89, 0), (89, 10), (89, 11), (89, 12), (89, 13), (89, 14)] M r.2 := by
    intro  h
    replace h := hQ3  h
    exact J2 _ (ed_some h)
  by_cases q6 : ¬ x1 = 0
  · replace h := ed_pos q6 h
    exact J3  (hk3  h)
  · replace h := ed_neg q6 h
    obtain ⟨Q4, hQ4, h⟩ := bd1_ed h
    obtain ⟨x4, e4, h⟩ := h
    replace h := hQ4 _ h
    by_cases q17 : x4 = 0
    · replace h := ed_pos q17 h
      exact J2 _ (ed_some h)
    · replace h := ed_neg q17 h
      exact J3  (hk3  h)
