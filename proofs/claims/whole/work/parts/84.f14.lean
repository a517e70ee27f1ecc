/-! METHODS AS FUNCTIONS -/
noncomputable def f_MScriptRows_give_L210 (v25 : Int32) (v26 : Int32) (v27 : Int32) (x28 : Int32) (M29 : im_M) : Option ((Int32 × im_M) ⊕ (im_M)) := if v27 ≤ x28 then some (.inr M29) else bd1 (if ¬ v25 = 7 then gd (inb (v26 + x28) 200) <| some (im_i M29 85 (Int32.toNatClampNeg (v26 + x28))) else gd (inb ((2 : Int32) * x28) 200) <| bd1 (f_MScriptRows_hex (im_i M29 85 (Int32.toNatClampNeg ((2 : Int32) * x28))) M29) fun (x31 : Int32) => gd (inb (((2 : Int32) * x28) + 1) 200) <| bd1 (f_MScriptRows_hex (im_i M29 85 (Int32.toNatClampNeg (((2 : Int32) * x28) + 1))) M29) fun (x32 : Int32) => some (((16 : Int32) * x31) + x32)) fun (y33 : Int32) => gd (inb (((200 : Int32) * (im_i M29 71 37)) + x28) 24000) <| some (.inl ((x28 + 1), (im_setI M29 88 (Int32.toNatClampNeg (((200 : Int32) * (im_i M29 71 37)) + x28)) y33)))
noncomputable def f_MScriptRows_give (p0 : Int32) (p1 : Int32) (p2 : Int32) (p3 : Int32) (p4 : Int32) (p5 : Int32) (p6 : Int32) (M : im_M) : Option (im_M) := gd (inb (((16 : Int32) * p0) + 5) 2000) <| bd1 (f_MScriptRows_stepX (im_i M 82 (Int32.toNatClampNeg (((16 : Int32) * p0) + 5))) p3 p4 p2 M) fun (x1 : Int32) => gd (inb (((16 : Int32) * p0) + 6) 2000) <| bd1 (f_MScriptRows_stepY (im_i M 82 (Int32.toNatClampNeg (((16 : Int32) * p0) + 6))) p3 p4 p2 M) fun (x2 : Int32) => bd1 (jn0 (fun (_ : Unit) => some 1) fun k4 => if ¬ (im_i M 71 32) = 0 then k4 () else bd1 (f_MScriptRows_isFar x1 M) fun (x5 : Int32) => if ¬ x5 = 0 then k4 () else bd1 (f_MScriptRows_isFar x2 M) fun (x6 : Int32) => if x6 = 0 then some 0 else k4 ()) fun (y15 : Int32) => gd (y15 = 0 ∨ y15 = 1) <| if ¬ (im_i (im_setI (im_setI M 71 32 y15) 71 26 ((im_i (im_setI M 71 32 y15) 71 26) + 1)) 71 33) = 0 then gd (inb ((9 : Int32) * (im_i (im_setI (im_setI M 71 32 y15) 71 26 ((im_i (im_setI M 71 32 y15) 71 26) + 1)) 71 37)) 1080) <| gd (inb (((9 : Int32) * (im_i (im_setI (im_setI M 71 32 y15) 71 26 ((im_i (im_setI M 71 32 y15) 71 26) + 1)) 71 37)) + 1) 1080) <| gd (inb (((9 : Int32) * (im_i (im_setI (im_setI M 71 32 y15) 71 26 ((im_i (im_setI M 71 32 y15) 71 26) + 1)) 71 37)) + 2) 1080) <| gd (inb (((9 : Int32) * (im_i (im_setI (im_setI M 71 32 y15) 71 26 ((im_i (im_setI M 71 32 y15) 71 26) + 1)) 71 37)) + 3) 1080) <| gd (inb (((16 : Int32) * p0) + 7) 2000) <| gd (inb (((9 : Int32) * (im_i (im_setI (im_setI M 71 32 y15) 71 26 ((im_i (im_setI M 71 32 y15) 71 26) + 1)) 71 37)) + 4) 1080) <| gd (inb (((9 : Int32) * (im_i (im_setI (im_setI M 71 32 y15) 71 26 ((im_i (im_setI M 71 32 y15) 71 26) + 1)) 71 37)) + 5) 1080) <| gd (inb (((9 : Int32) * (im_i (im_setI (im_setI M 71 32 y15) 71 26 ((im_i (im_setI M 71 32 y15) 71 26) + 1)) 71 37)) + 6) 1080) <| gd (inb (((9 : Int32) * (im_i (im_setI (im_setI M 71 32 y15) 71 26 ((im_i (im_setI M 71 32 y15) 71 26) + 1)) 71 37)) + 7) 1080) <| gd (inb (((9 : Int32) * (im_i (im_setI (im_setI M 71 32 y15) 71 26 ((im_i (im_setI M 71 32 y15) 71 26) + 1)) 71 37)) + 8) 1080) <| bd1 (lp (uc2 (f_MScriptRows_give_L210 p1 p5 p6)) (0, (im_setI (im_setI (im_setI (im_setI (im_setI (im_setI (im_setI (im_setI (im_setI (im_setI (im_setI M 71 32 y15) 71 26 ((im_i (im_setI M 71 32 y15) 71 26) + 1)) 87 (Int32.toNatClampNeg ((9 : Int32) * (im_i (im_setI (im_setI M 71 32 y15) 71 26 ((im_i (im_setI M 71 32 y15) 71 26) + 1)) 71 37))) p1) 87 (Int32.toNatClampNeg (((9 : Int32) * (im_i (im_setI (im_setI M 71 32 y15) 71 26 ((im_i (im_setI M 71 32 y15) 71 26) + 1)) 71 37)) + 1)) x1) 87 (Int32.toNatClampNeg (((9 : Int32) * (im_i (im_setI (im_setI M 71 32 y15) 71 26 ((im_i (im_setI M 71 32 y15) 71 26) + 1)) 71 37)) + 2)) x2) 87 (Int32.toNatClampNeg (((9 : Int32) * (im_i (im_setI (im_setI M 71 32 y15) 71 26 ((im_i (im_setI M 71 32 y15) 71 26) + 1)) 71 37)) + 3)) p2) 87 (Int32.toNatClampNeg (((9 : Int32) * (im_i (im_setI (im_setI M 71 32 y15) 71 26 ((im_i (im_setI M 71 32 y15) 71 26) + 1)) 71 37)) + 4)) (im_i (im_setI (im_setI (im_setI (im_setI (im_setI (im_setI M 71 32 y15) 71 26 ((im_i (im_setI M 71 32 y15) 71 26) + 1)) 87 (Int32.toNatClampNeg ((9 : Int32) * (im_i (im_setI (im_setI M 71 32 y15) 71 26 ((im_i (im_setI M 71 32 y15) 71 26) + 1)) 71 37))) p1) 87 (Int32.toNatClampNeg (((9 : Int32) * (im_i (im_setI (im_setI M 71 32 y15) 71 26 ((im_i (im_setI M 71 32 y15) 71 26) + 1)) 71 37)) + 1)) x1) 87 (Int32.toNatClampNeg (((9 : Int32) * (im_i (im_setI (im_setI M 71 32 y15) 71 26 ((im_i (im_setI M 71 32 y15) 71 26) + 1)) 71 37)) + 2)) x2) 87 (Int32.toNatClampNeg (((9 : Int32) * (im_i (im_setI (im_setI M 71 32 y15) 71 26 ((im_i (im_setI M 71 32 y15) 71 26) + 1)) 71 37)) + 3)) p2) 82 (Int32.toNatClampNeg (((16 : Int32) * p0) + 7)))) 87 (Int32.toNatClampNeg (((9 : Int32) * (im_i (im_setI (im_setI M 71 32 y15) 71 26 ((im_i (im_setI M 71 32 y15) 71 26) + 1)) 71 37)) + 5)) 0) 87 (Int32.toNatClampNeg (((9 : Int32) * (im_i (im_setI (im_setI M 71 32 y15) 71 26 ((im_i (im_setI M 71 32 y15) 71 26) + 1)) 71 37)) + 6)) 0) 87 (Int32.toNatClampNeg (((9 : Int32) * (im_i (im_setI (im_setI M 71 32 y15) 71 26 ((im_i (im_setI M 71 32 y15) 71 26) + 1)) 71 37)) + 7)) 0) 87 (Int32.toNatClampNeg (((9 : Int32) * (im_i (im_setI (im_setI M 71 32 y15) 71 26 ((im_i (im_setI M 71 32 y15) 71 26) + 1)) 71 37)) + 8)) p6))) fun (M39 : im_M) => some (im_setI M39 71 37 ((im_i M39 71 37) + 1)) else some (im_setI (im_setI M 71 32 y15) 71 26 ((im_i (im_setI M 71 32 y15) 71 26) + 1))
theorem J_MScriptRows_give_d0 : decode J_MScriptRows_give.2.1 0 = .ok (.aload_n 0, 1) := by decide +kernel
theorem J_MScriptRows_give_d1 : decode J_MScriptRows_give.2.1 1 = .ok (.getfield 44, 3) := by decide +kernel
theorem J_MScriptRows_give_d4 : decode J_MScriptRows_give.2.1 4 = .ok (.bipush 16, 2) := by decide +kernel
theorem J_MScriptRows_give_d6 : decode J_MScriptRows_give.2.1 6 = .ok (.iload_n 1, 1) := by decide +kernel
theorem J_MScriptRows_give_d7 : decode J_MScriptRows_give.2.1 7 = .ok (.imul, 1) := by decide +kernel
theorem J_MScriptRows_give_d8 : decode J_MScriptRows_give.2.1 8 = .ok (.iconst 5, 1) := by decide +kernel
theorem J_MScriptRows_give_d9 : decode J_MScriptRows_give.2.1 9 = .ok (.iadd, 1) := by decide +kernel
theorem J_MScriptRows_give_d10 : decode J_MScriptRows_give.2.1 10 = .ok (.iaload, 1) := by decide +kernel
theorem J_MScriptRows_give_d11 : decode J_MScriptRows_give.2.1 11 = .ok (.iload 4, 2) := by decide +kernel
theorem J_MScriptRows_give_d13 : decode J_MScriptRows_give.2.1 13 = .ok (.iload 5, 2) := by decide +kernel
theorem J_MScriptRows_give_d15 : decode J_MScriptRows_give.2.1 15 = .ok (.iload_n 3, 1) := by decide +kernel
theorem J_MScriptRows_give_d16 : decode J_MScriptRows_give.2.1 16 = .ok (.invokestatic 145, 3) := by decide +kernel
theorem J_MScriptRows_give_d19 : decode J_MScriptRows_give.2.1 19 = .ok (.istore 8, 2) := by decide +kernel
theorem J_MScriptRows_give_d21 : decode J_MScriptRows_give.2.1 21 = .ok (.aload_n 0, 1) := by decide +kernel
theorem J_MScriptRows_give_d22 : decode J_MScriptRows_give.2.1 22 = .ok (.getfield 44, 3) := by decide +kernel
theorem J_MScriptRows_give_d25 : decode J_MScriptRows_give.2.1 25 = .ok (.bipush 16, 2) := by decide +kernel
theorem J_MScriptRows_give_d27 : decode J_MScriptRows_give.2.1 27 = .ok (.iload_n 1, 1) := by decide +kernel
theorem J_MScriptRows_give_d28 : decode J_MScriptRows_give.2.1 28 = .ok (.imul, 1) := by decide +kernel
theorem J_MScriptRows_give_d29 : decode J_MScriptRows_give.2.1 29 = .ok (.bipush 6, 2) := by decide +kernel
theorem J_MScriptRows_give_d31 : decode J_MScriptRows_give.2.1 31 = .ok (.iadd, 1) := by decide +kernel
theorem J_MScriptRows_give_d32 : decode J_MScriptRows_give.2.1 32 = .ok (.iaload, 1) := by decide +kernel
theorem J_MScriptRows_give_d33 : decode J_MScriptRows_give.2.1 33 = .ok (.iload 4, 2) := by decide +kernel
theorem J_MScriptRows_give_d35 : decode J_MScriptRows_give.2.1 35 = .ok (.iload 5, 2) := by decide +kernel
theorem J_MScriptRows_give_d37 : decode J_MScriptRows_give.2.1 37 = .ok (.iload_n 3, 1) := by decide +kernel
theorem J_MScriptRows_give_d38 : decode J_MScriptRows_give.2.1 38 = .ok (.invokestatic 149, 3) := by decide +kernel
theorem J_MScriptRows_give_d41 : decode J_MScriptRows_give.2.1 41 = .ok (.istore 9, 2) := by decide +kernel
theorem J_MScriptRows_give_d43 : decode J_MScriptRows_give.2.1 43 = .ok (.aload_n 0, 1) := by decide +kernel
theorem J_MScriptRows_give_d44 : decode J_MScriptRows_give.2.1 44 = .ok (.aload_n 0, 1) := by decide +kernel
theorem J_MScriptRows_give_d45 : decode J_MScriptRows_give.2.1 45 = .ok (.getfield 132, 3) := by decide +kernel
theorem J_MScriptRows_give_d48 : decode J_MScriptRows_give.2.1 48 = .ok (.ifCond .ne 19, 3) := by decide +kernel
theorem J_MScriptRows_give_d51 : decode J_MScriptRows_give.2.1 51 = .ok (.iload 8, 2) := by decide +kernel
theorem J_MScriptRows_give_d53 : decode J_MScriptRows_give.2.1 53 = .ok (.invokestatic 152, 3) := by decide +kernel
theorem J_MScriptRows_give_d56 : decode J_MScriptRows_give.2.1 56 = .ok (.ifCond .ne 11, 3) := by decide +kernel
theorem J_MScriptRows_give_d59 : decode J_MScriptRows_give.2.1 59 = .ok (.iload 9, 2) := by decide +kernel
theorem J_MScriptRows_give_d61 : decode J_MScriptRows_give.2.1 61 = .ok (.invokestatic 152, 3) := by decide +kernel
theorem J_MScriptRows_give_d64 : decode J_MScriptRows_give.2.1 64 = .ok (.ifCond .eq 7, 3) := by decide +kernel
theorem J_MScriptRows_give_d67 : decode J_MScriptRows_give.2.1 67 = .ok (.iconst 1, 1) := by decide +kernel
theorem J_MScriptRows_give_d68 : decode J_MScriptRows_give.2.1 68 = .ok (.goto 4, 3) := by decide +kernel
theorem J_MScriptRows_give_d71 : decode J_MScriptRows_give.2.1 71 = .ok (.iconst 0, 1) := by decide +kernel
theorem J_MScriptRows_give_d72 : decode J_MScriptRows_give.2.1 72 = .ok (.putfield 132, 3) := by decide +kernel
theorem J_MScriptRows_give_d75 : decode J_MScriptRows_give.2.1 75 = .ok (.aload_n 0, 1) := by decide +kernel
theorem J_MScriptRows_give_d76 : decode J_MScriptRows_give.2.1 76 = .ok (.dup, 1) := by decide +kernel
theorem J_MScriptRows_give_d77 : decode J_MScriptRows_give.2.1 77 = .ok (.getfield 123, 3) := by decide +kernel
theorem J_MScriptRows_give_d80 : decode J_MScriptRows_give.2.1 80 = .ok (.iconst 1, 1) := by decide +kernel
theorem J_MScriptRows_give_d81 : decode J_MScriptRows_give.2.1 81 = .ok (.iadd, 1) := by decide +kernel
theorem J_MScriptRows_give_d82 : decode J_MScriptRows_give.2.1 82 = .ok (.putfield 123, 3) := by decide +kernel
theorem J_MScriptRows_give_d85 : decode J_MScriptRows_give.2.1 85 = .ok (.aload_n 0, 1) := by decide +kernel
theorem J_MScriptRows_give_d86 : decode J_MScriptRows_give.2.1 86 = .ok (.getfield 136, 3) := by decide +kernel
theorem J_MScriptRows_give_d89 : decode J_MScriptRows_give.2.1 89 = .ok (.ifCond .ne 4, 3) := by decide +kernel
theorem J_MScriptRows_give_d92 : decode J_MScriptRows_give.2.1 92 = .ok (.return_, 1) := by decide +kernel
theorem J_MScriptRows_give_d93 : decode J_MScriptRows_give.2.1 93 = .ok (.bipush 9, 2) := by decide +kernel
theorem J_MScriptRows_give_d95 : decode J_MScriptRows_give.2.1 95 = .ok (.aload_n 0, 1) := by decide +kernel
theorem J_MScriptRows_give_d96 : decode J_MScriptRows_give.2.1 96 = .ok (.getfield 155, 3) := by decide +kernel
theorem J_MScriptRows_give_d99 : decode J_MScriptRows_give.2.1 99 = .ok (.imul, 1) := by decide +kernel
theorem J_MScriptRows_give_d100 : decode J_MScriptRows_give.2.1 100 = .ok (.istore 10, 2) := by decide +kernel
theorem J_MScriptRows_give_d102 : decode J_MScriptRows_give.2.1 102 = .ok (.aload_n 0, 1) := by decide +kernel
theorem J_MScriptRows_give_d103 : decode J_MScriptRows_give.2.1 103 = .ok (.getfield 59, 3) := by decide +kernel
theorem J_MScriptRows_give_d106 : decode J_MScriptRows_give.2.1 106 = .ok (.iload 10, 2) := by decide +kernel
theorem J_MScriptRows_give_d108 : decode J_MScriptRows_give.2.1 108 = .ok (.iload_n 2, 1) := by decide +kernel
theorem J_MScriptRows_give_d109 : decode J_MScriptRows_give.2.1 109 = .ok (.iastore, 1) := by decide +kernel
theorem J_MScriptRows_give_d110 : decode J_MScriptRows_give.2.1 110 = .ok (.aload_n 0, 1) := by decide +kernel
theorem J_MScriptRows_give_d111 : decode J_MScriptRows_give.2.1 111 = .ok (.getfield 59, 3) := by decide +kernel
theorem J_MScriptRows_give_d114 : decode J_MScriptRows_give.2.1 114 = .ok (.iload 10, 2) := by decide +kernel
theorem J_MScriptRows_give_d116 : decode J_MScriptRows_give.2.1 116 = .ok (.iconst 1, 1) := by decide +kernel
theorem J_MScriptRows_give_d117 : decode J_MScriptRows_give.2.1 117 = .ok (.iadd, 1) := by decide +kernel
theorem J_MScriptRows_give_d118 : decode J_MScriptRows_give.2.1 118 = .ok (.iload 8, 2) := by decide +kernel
theorem J_MScriptRows_give_d120 : decode J_MScriptRows_give.2.1 120 = .ok (.iastore, 1) := by decide +kernel
theorem J_MScriptRows_give_d121 : decode J_MScriptRows_give.2.1 121 = .ok (.aload_n 0, 1) := by decide +kernel
theorem J_MScriptRows_give_d122 : decode J_MScriptRows_give.2.1 122 = .ok (.getfield 59, 3) := by decide +kernel
theorem J_MScriptRows_give_d125 : decode J_MScriptRows_give.2.1 125 = .ok (.iload 10, 2) := by decide +kernel
theorem J_MScriptRows_give_d127 : decode J_MScriptRows_give.2.1 127 = .ok (.iconst 2, 1) := by decide +kernel
theorem J_MScriptRows_give_d128 : decode J_MScriptRows_give.2.1 128 = .ok (.iadd, 1) := by decide +kernel
theorem J_MScriptRows_give_d129 : decode J_MScriptRows_give.2.1 129 = .ok (.iload 9, 2) := by decide +kernel
theorem J_MScriptRows_give_d131 : decode J_MScriptRows_give.2.1 131 = .ok (.iastore, 1) := by decide +kernel
theorem J_MScriptRows_give_d132 : decode J_MScriptRows_give.2.1 132 = .ok (.aload_n 0, 1) := by decide +kernel
theorem J_MScriptRows_give_d133 : decode J_MScriptRows_give.2.1 133 = .ok (.getfield 59, 3) := by decide +kernel
theorem J_MScriptRows_give_d136 : decode J_MScriptRows_give.2.1 136 = .ok (.iload 10, 2) := by decide +kernel
theorem J_MScriptRows_give_d138 : decode J_MScriptRows_give.2.1 138 = .ok (.iconst 3, 1) := by decide +kernel
theorem J_MScriptRows_give_d139 : decode J_MScriptRows_give.2.1 139 = .ok (.iadd, 1) := by decide +kernel
theorem J_MScriptRows_give_d140 : decode J_MScriptRows_give.2.1 140 = .ok (.iload_n 3, 1) := by decide +kernel
theorem J_MScriptRows_give_d141 : decode J_MScriptRows_give.2.1 141 = .ok (.iastore, 1) := by decide +kernel
theorem J_MScriptRows_give_d142 : decode J_MScriptRows_give.2.1 142 = .ok (.aload_n 0, 1) := by decide +kernel
theorem J_MScriptRows_give_d143 : decode J_MScriptRows_give.2.1 143 = .ok (.getfield 59, 3) := by decide +kernel
theorem J_MScriptRows_give_d146 : decode J_MScriptRows_give.2.1 146 = .ok (.iload 10, 2) := by decide +kernel
theorem J_MScriptRows_give_d148 : decode J_MScriptRows_give.2.1 148 = .ok (.iconst 4, 1) := by decide +kernel
theorem J_MScriptRows_give_d149 : decode J_MScriptRows_give.2.1 149 = .ok (.iadd, 1) := by decide +kernel
theorem J_MScriptRows_give_d150 : decode J_MScriptRows_give.2.1 150 = .ok (.aload_n 0, 1) := by decide +kernel
theorem J_MScriptRows_give_d151 : decode J_MScriptRows_give.2.1 151 = .ok (.getfield 44, 3) := by decide +kernel
theorem J_MScriptRows_give_d154 : decode J_MScriptRows_give.2.1 154 = .ok (.bipush 16, 2) := by decide +kernel
theorem J_MScriptRows_give_d156 : decode J_MScriptRows_give.2.1 156 = .ok (.iload_n 1, 1) := by decide +kernel
theorem J_MScriptRows_give_d157 : decode J_MScriptRows_give.2.1 157 = .ok (.imul, 1) := by decide +kernel
theorem J_MScriptRows_give_d158 : decode J_MScriptRows_give.2.1 158 = .ok (.bipush 7, 2) := by decide +kernel
theorem J_MScriptRows_give_d160 : decode J_MScriptRows_give.2.1 160 = .ok (.iadd, 1) := by decide +kernel
theorem J_MScriptRows_give_d161 : decode J_MScriptRows_give.2.1 161 = .ok (.iaload, 1) := by decide +kernel
theorem J_MScriptRows_give_d162 : decode J_MScriptRows_give.2.1 162 = .ok (.iastore, 1) := by decide +kernel
theorem J_MScriptRows_give_d163 : decode J_MScriptRows_give.2.1 163 = .ok (.aload_n 0, 1) := by decide +kernel
theorem J_MScriptRows_give_d164 : decode J_MScriptRows_give.2.1 164 = .ok (.getfield 59, 3) := by decide +kernel
theorem J_MScriptRows_give_d167 : decode J_MScriptRows_give.2.1 167 = .ok (.iload 10, 2) := by decide +kernel
theorem J_MScriptRows_give_d169 : decode J_MScriptRows_give.2.1 169 = .ok (.iconst 5, 1) := by decide +kernel
theorem J_MScriptRows_give_d170 : decode J_MScriptRows_give.2.1 170 = .ok (.iadd, 1) := by decide +kernel
theorem J_MScriptRows_give_d171 : decode J_MScriptRows_give.2.1 171 = .ok (.iconst 0, 1) := by decide +kernel
theorem J_MScriptRows_give_d172 : decode J_MScriptRows_give.2.1 172 = .ok (.iastore, 1) := by decide +kernel
theorem J_MScriptRows_give_d173 : decode J_MScriptRows_give.2.1 173 = .ok (.aload_n 0, 1) := by decide +kernel
theorem J_MScriptRows_give_d174 : decode J_MScriptRows_give.2.1 174 = .ok (.getfield 59, 3) := by decide +kernel
theorem J_MScriptRows_give_d177 : decode J_MScriptRows_give.2.1 177 = .ok (.iload 10, 2) := by decide +kernel
theorem J_MScriptRows_give_d179 : decode J_MScriptRows_give.2.1 179 = .ok (.bipush 6, 2) := by decide +kernel
theorem J_MScriptRows_give_d181 : decode J_MScriptRows_give.2.1 181 = .ok (.iadd, 1) := by decide +kernel
theorem J_MScriptRows_give_d182 : decode J_MScriptRows_give.2.1 182 = .ok (.iconst 0, 1) := by decide +kernel
theorem J_MScriptRows_give_d183 : decode J_MScriptRows_give.2.1 183 = .ok (.iastore, 1) := by decide +kernel
theorem J_MScriptRows_give_d184 : decode J_MScriptRows_give.2.1 184 = .ok (.aload_n 0, 1) := by decide +kernel
theorem J_MScriptRows_give_d185 : decode J_MScriptRows_give.2.1 185 = .ok (.getfield 59, 3) := by decide +kernel
theorem J_MScriptRows_give_d188 : decode J_MScriptRows_give.2.1 188 = .ok (.iload 10, 2) := by decide +kernel
theorem J_MScriptRows_give_d190 : decode J_MScriptRows_give.2.1 190 = .ok (.bipush 7, 2) := by decide +kernel
theorem J_MScriptRows_give_d192 : decode J_MScriptRows_give.2.1 192 = .ok (.iadd, 1) := by decide +kernel
theorem J_MScriptRows_give_d193 : decode J_MScriptRows_give.2.1 193 = .ok (.iconst 0, 1) := by decide +kernel
theorem J_MScriptRows_give_d194 : decode J_MScriptRows_give.2.1 194 = .ok (.iastore, 1) := by decide +kernel
theorem J_MScriptRows_give_d195 : decode J_MScriptRows_give.2.1 195 = .ok (.aload_n 0, 1) := by decide +kernel
theorem J_MScriptRows_give_d196 : decode J_MScriptRows_give.2.1 196 = .ok (.getfield 59, 3) := by decide +kernel
theorem J_MScriptRows_give_d199 : decode J_MScriptRows_give.2.1 199 = .ok (.iload 10, 2) := by decide +kernel
theorem J_MScriptRows_give_d201 : decode J_MScriptRows_give.2.1 201 = .ok (.bipush 8, 2) := by decide +kernel
theorem J_MScriptRows_give_d203 : decode J_MScriptRows_give.2.1 203 = .ok (.iadd, 1) := by decide +kernel
theorem J_MScriptRows_give_d204 : decode J_MScriptRows_give.2.1 204 = .ok (.iload 7, 2) := by decide +kernel
theorem J_MScriptRows_give_d206 : decode J_MScriptRows_give.2.1 206 = .ok (.iastore, 1) := by decide +kernel
theorem J_MScriptRows_give_d207 : decode J_MScriptRows_give.2.1 207 = .ok (.iconst 0, 1) := by decide +kernel
theorem J_MScriptRows_give_d208 : decode J_MScriptRows_give.2.1 208 = .ok (.istore 11, 2) := by decide +kernel
theorem J_MScriptRows_give_d210 : decode J_MScriptRows_give.2.1 210 = .ok (.iload 11, 2) := by decide +kernel
theorem J_MScriptRows_give_d212 : decode J_MScriptRows_give.2.1 212 = .ok (.iload 7, 2) := by decide +kernel
theorem J_MScriptRows_give_d214 : decode J_MScriptRows_give.2.1 214 = .ok (.if_icmp .ge 74, 3) := by decide +kernel
theorem J_MScriptRows_give_d217 : decode J_MScriptRows_give.2.1 217 = .ok (.aload_n 0, 1) := by decide +kernel
theorem J_MScriptRows_give_d218 : decode J_MScriptRows_give.2.1 218 = .ok (.getfield 62, 3) := by decide +kernel
theorem J_MScriptRows_give_d221 : decode J_MScriptRows_give.2.1 221 = .ok (.sipush 200, 3) := by decide +kernel
theorem J_MScriptRows_give_d224 : decode J_MScriptRows_give.2.1 224 = .ok (.aload_n 0, 1) := by decide +kernel
theorem J_MScriptRows_give_d225 : decode J_MScriptRows_give.2.1 225 = .ok (.getfield 155, 3) := by decide +kernel
theorem J_MScriptRows_give_d228 : decode J_MScriptRows_give.2.1 228 = .ok (.imul, 1) := by decide +kernel
theorem J_MScriptRows_give_d229 : decode J_MScriptRows_give.2.1 229 = .ok (.iload 11, 2) := by decide +kernel
theorem J_MScriptRows_give_d231 : decode J_MScriptRows_give.2.1 231 = .ok (.iadd, 1) := by decide +kernel
theorem J_MScriptRows_give_d232 : decode J_MScriptRows_give.2.1 232 = .ok (.iload_n 2, 1) := by decide +kernel
theorem J_MScriptRows_give_d233 : decode J_MScriptRows_give.2.1 233 = .ok (.bipush 7, 2) := by decide +kernel
theorem J_MScriptRows_give_d235 : decode J_MScriptRows_give.2.1 235 = .ok (.if_icmp .ne 36, 3) := by decide +kernel
theorem J_MScriptRows_give_d238 : decode J_MScriptRows_give.2.1 238 = .ok (.bipush 16, 2) := by decide +kernel
theorem J_MScriptRows_give_d240 : decode J_MScriptRows_give.2.1 240 = .ok (.aload_n 0, 1) := by decide +kernel
theorem J_MScriptRows_give_d241 : decode J_MScriptRows_give.2.1 241 = .ok (.getfield 53, 3) := by decide +kernel
theorem J_MScriptRows_give_d244 : decode J_MScriptRows_give.2.1 244 = .ok (.iconst 2, 1) := by decide +kernel
theorem J_MScriptRows_give_d245 : decode J_MScriptRows_give.2.1 245 = .ok (.iload 11, 2) := by decide +kernel
theorem J_MScriptRows_give_d247 : decode J_MScriptRows_give.2.1 247 = .ok (.imul, 1) := by decide +kernel
theorem J_MScriptRows_give_d248 : decode J_MScriptRows_give.2.1 248 = .ok (.iaload, 1) := by decide +kernel
theorem J_MScriptRows_give_d249 : decode J_MScriptRows_give.2.1 249 = .ok (.invokestatic 104, 3) := by decide +kernel
theorem J_MScriptRows_give_d252 : decode J_MScriptRows_give.2.1 252 = .ok (.imul, 1) := by decide +kernel
theorem J_MScriptRows_give_d253 : decode J_MScriptRows_give.2.1 253 = .ok (.aload_n 0, 1) := by decide +kernel
theorem J_MScriptRows_give_d254 : decode J_MScriptRows_give.2.1 254 = .ok (.getfield 53, 3) := by decide +kernel
theorem J_MScriptRows_give_d257 : decode J_MScriptRows_give.2.1 257 = .ok (.iconst 2, 1) := by decide +kernel
theorem J_MScriptRows_give_d258 : decode J_MScriptRows_give.2.1 258 = .ok (.iload 11, 2) := by decide +kernel
theorem J_MScriptRows_give_d260 : decode J_MScriptRows_give.2.1 260 = .ok (.imul, 1) := by decide +kernel
theorem J_MScriptRows_give_d261 : decode J_MScriptRows_give.2.1 261 = .ok (.iconst 1, 1) := by decide +kernel
theorem J_MScriptRows_give_d262 : decode J_MScriptRows_give.2.1 262 = .ok (.iadd, 1) := by decide +kernel
theorem J_MScriptRows_give_d263 : decode J_MScriptRows_give.2.1 263 = .ok (.iaload, 1) := by decide +kernel
theorem J_MScriptRows_give_d264 : decode J_MScriptRows_give.2.1 264 = .ok (.invokestatic 104, 3) := by decide +kernel
theorem J_MScriptRows_give_d267 : decode J_MScriptRows_give.2.1 267 = .ok (.iadd, 1) := by decide +kernel
theorem J_MScriptRows_give_d268 : decode J_MScriptRows_give.2.1 268 = .ok (.goto 13, 3) := by decide +kernel
theorem J_MScriptRows_give_d271 : decode J_MScriptRows_give.2.1 271 = .ok (.aload_n 0, 1) := by decide +kernel
theorem J_MScriptRows_give_d272 : decode J_MScriptRows_give.2.1 272 = .ok (.getfield 53, 3) := by decide +kernel
theorem J_MScriptRows_give_d275 : decode J_MScriptRows_give.2.1 275 = .ok (.iload 6, 2) := by decide +kernel
theorem J_MScriptRows_give_d277 : decode J_MScriptRows_give.2.1 277 = .ok (.iload 11, 2) := by decide +kernel
theorem J_MScriptRows_give_d279 : decode J_MScriptRows_give.2.1 279 = .ok (.iadd, 1) := by decide +kernel
theorem J_MScriptRows_give_d280 : decode J_MScriptRows_give.2.1 280 = .ok (.iaload, 1) := by decide +kernel
theorem J_MScriptRows_give_d281 : decode J_MScriptRows_give.2.1 281 = .ok (.iastore, 1) := by decide +kernel
theorem J_MScriptRows_give_d282 : decode J_MScriptRows_give.2.1 282 = .ok (.iinc 11 1, 3) := by decide +kernel
theorem J_MScriptRows_give_d285 : decode J_MScriptRows_give.2.1 285 = .ok (.goto (-75), 3) := by decide +kernel
theorem J_MScriptRows_give_d288 : decode J_MScriptRows_give.2.1 288 = .ok (.aload_n 0, 1) := by decide +kernel
theorem J_MScriptRows_give_d289 : decode J_MScriptRows_give.2.1 289 = .ok (.dup, 1) := by decide +kernel
theorem J_MScriptRows_give_d290 : decode J_MScriptRows_give.2.1 290 = .ok (.getfield 155, 3) := by decide +kernel
theorem J_MScriptRows_give_d293 : decode J_MScriptRows_give.2.1 293 = .ok (.iconst 1, 1) := by decide +kernel
theorem J_MScriptRows_give_d294 : decode J_MScriptRows_give.2.1 294 = .ok (.iadd, 1) := by decide +kernel
theorem J_MScriptRows_give_d295 : decode J_MScriptRows_give.2.1 295 = .ok (.putfield 155, 3) := by decide +kernel
theorem J_MScriptRows_give_d298 : decode J_MScriptRows_give.2.1 298 = .ok (.return_, 1) := by decide +kernel
theorem f_MScriptRows_give_ok {L : Nat} {xs : Nat → Int32} {dep : Nat} {w : Bool} {p0 : Int32} {p1 : Int32} {p2 : Int32} {p3 : Int32} {p4 : Int32} {p5 : Int32} {p6 : Int32} {M : im_M} {Q : im_M → Prop} (hM : lw_S w M) (h : ed (f_MScriptRows_give p0 p1 p2 p3 p4 p5 p6 M) Q) : ia (tb_G L xs) (dep + 2) J_MScriptRows_give (rwV w Q) (0, lv_args 0 [.ref 71, .int p0, .int p1, .int p2, .int p3, .int p4, .int p5, .int p6], [], M) := by
  have hS : im_St (tb_G L xs) (dep + 2) J_MScriptRows_give (ia (tb_G L xs) (dep + 2) J_MScriptRows_give (rwV w Q)) := ia_St
  unfold f_MScriptRows_give at h
  have l0 : im_lk (lv_args 0 [.ref 71, .int p0, .int p1, .int p2, .int p3, .int p4, .int p5, .int p6]) 0 = some (.ref 71) := rfl
  have l1 : im_lk (lv_args 0 [.ref 71, .int p0, .int p1, .int p2, .int p3, .int p4, .int p5, .int p6]) 1 = some (.int p0) := rfl
  have l2 : im_lk (lv_args 0 [.ref 71, .int p0, .int p1, .int p2, .int p3, .int p4, .int p5, .int p6]) 2 = some (.int p1) := rfl
  have l3 : im_lk (lv_args 0 [.ref 71, .int p0, .int p1, .int p2, .int p3, .int p4, .int p5, .int p6]) 3 = some (.int p2) := rfl
  have l4 : im_lk (lv_args 0 [.ref 71, .int p0, .int p1, .int p2, .int p3, .int p4, .int p5, .int p6]) 4 = some (.int p3) := rfl
  have l5 : im_lk (lv_args 0 [.ref 71, .int p0, .int p1, .int p2, .int p3, .int p4, .int p5, .int p6]) 5 = some (.int p4) := rfl
  have l6 : im_lk (lv_args 0 [.ref 71, .int p0, .int p1, .int p2, .int p3, .int p4, .int p5, .int p6]) 6 = some (.int p5) := rfl
  have l7 : im_lk (lv_args 0 [.ref 71, .int p0, .int p1, .int p2, .int p3, .int p4, .int p5, .int p6]) 7 = some (.int p6) := rfl
  refine iq_aload_n hS 1 J_MScriptRows_give_d0 l0 rfl ?_
  refine iq_getR hS 4 J_MScriptRows_give_d1 lf_15_44 (Or.inr ⟨_, rfl⟩) (ka_71 hM) (ra_71_28 hM) rfl ?_
  refine iq_bipush hS 6 J_MScriptRows_give_d4 (v := 16) (by decide +kernel) rfl ?_
  refine iq_iload_n hS 7 J_MScriptRows_give_d6 l1 rfl ?_
  refine iq_imul hS 8 J_MScriptRows_give_d7 rfl ?_
  refine iq_iconst hS 9 J_MScriptRows_give_d8 (v := 5) (by decide +kernel) rfl ?_
  refine iq_iadd hS 10 J_MScriptRows_give_d9 rfl ?_
  obtain ⟨g10, h⟩ := ed_gd h
  refine iq_iaload hS 11 J_MScriptRows_give_d10 ⟨(ka_82 hM).1, (ka_82 hM).2, g10.1, ix_lt (kl_82 hM) g10.2⟩ rfl ?_
  refine iq_iload hS 13 J_MScriptRows_give_d11 l4 rfl ?_
  refine iq_iload hS 15 J_MScriptRows_give_d13 l5 rfl ?_
  refine iq_iload_n hS 16 J_MScriptRows_give_d15 l3 rfl ?_
  obtain ⟨Q1, hQ1, h⟩ := bd1_ed h
  refine iq_cpI hS 19 J_MScriptRows_give_d16 rfl (pr_stat (vs := [_, _, _, _]) lc_15_145 lT_297 rfl rfl (by decide) rfl (Nat.le_of_ble_eq_true rfl) (Nat.le_of_ble_eq_true rfl)) (f_MScriptRows_stepX_ok (dep := dep + 1) hM h) rfl ?_
  intro x1 h
  replace h := hQ1 _ h
  refine iq_istore hS 21 J_MScriptRows_give_d19 (by decide) rfl ?_
  refine iq_aload_n hS 22 J_MScriptRows_give_d21 (lk_1r l0 (by decide)) rfl ?_
  refine iq_getR hS 25 J_MScriptRows_give_d22 lf_15_44 (Or.inr ⟨_, rfl⟩) (ka_71 hM) (ra_71_28 hM) rfl ?_
  refine iq_bipush hS 27 J_MScriptRows_give_d25 (v := 16) (by decide +kernel) rfl ?_
  refine iq_iload_n hS 28 J_MScriptRows_give_d27 (lk_1i l1 (by decide)) rfl ?_
  refine iq_imul hS 29 J_MScriptRows_give_d28 rfl ?_
  refine iq_bipush hS 31 J_MScriptRows_give_d29 (v := 6) (by decide +kernel) rfl ?_
  refine iq_iadd hS 32 J_MScriptRows_give_d31 rfl ?_
  obtain ⟨g32, h⟩ := ed_gd h
  refine iq_iaload hS 33 J_MScriptRows_give_d32 ⟨(ka_82 hM).1, (ka_82 hM).2, g32.1, ix_lt (kl_82 hM) g32.2⟩ rfl ?_
  refine iq_iload hS 35 J_MScriptRows_give_d33 (lk_1i l4 (by decide)) rfl ?_
  refine iq_iload hS 37 J_MScriptRows_give_d35 (lk_1i l5 (by decide)) rfl ?_
  refine iq_iload_n hS 38 J_MScriptRows_give_d37 (lk_1i l3 (by decide)) rfl ?_
  obtain ⟨Q2, hQ2, h⟩ := bd1_ed h
  refine iq_cpI hS 41 J_MScriptRows_give_d38 rfl (pr_stat (vs := [_, _, _, _]) lc_15_149 lT_298 rfl rfl (by decide) rfl (Nat.le_of_ble_eq_true rfl) (Nat.le_of_ble_eq_true rfl)) (f_MScriptRows_stepY_ok (dep := dep + 1) hM h) rfl ?_
  intro x2 h
  replace h := hQ2 _ h
  refine iq_istore hS 43 J_MScriptRows_give_d41 (by decide) rfl ?_
  refine iq_aload_n hS 44 J_MScriptRows_give_d43 (lk_1r (lk_1r l0 (by decide)) (by decide)) rfl ?_
  refine iq_aload_n hS 45 J_MScriptRows_give_d44 (lk_1r (lk_1r l0 (by decide)) (by decide)) rfl ?_
  refine iq_getI hS 48 J_MScriptRows_give_d45 lf_15_132 (Or.inr rfl) (ka_71 hM) rfl ?_
  obtain ⟨Q3, hQ3, h⟩ := bd1_ed h
  have J3 : ∀ (y15 : Int32) (L' : List (Nat × Value)), im_lk L' 0 = some (.ref 71) → im_lk L' 1 = some (.int p0) → im_lk L' 2 = some (.int p1) → im_lk L' 3 = some (.int p2) → im_lk L' 6 = some (.int p5) → im_lk L' 7 = some (.int p6) → im_lk L' 8 = some (.int x1) → im_lk L' 9 = some (.int x2) → Q3 y15 → ia (tb_G L xs) (dep + 2) J_MScriptRows_give (rwV w Q) (72, L', [.int y15, .ref 71], M) := by
    intro y15 L' l16 l17 l18 l19 l20 l21 l22 l23 h
    replace h := hQ3 _ h
    obtain ⟨g72, h⟩ := ed_gd h
    refine iq_putZ hS 75 J_MScriptRows_give_d72 lf_15_132 (Or.inl rfl) rfl (ka_71 hM) g72 rfl ?_
    refine iq_aload_n hS 76 J_MScriptRows_give_d75 l16 rfl ?_
    refine iq_dup hS 77 J_MScriptRows_give_d76 rfl rfl ?_
    refine iq_getI hS 80 J_MScriptRows_give_d77 lf_15_123 (Or.inl rfl) (ka_71 hM) rfl ?_
    refine iq_iconst hS 81 J_MScriptRows_give_d80 (v := 1) (by decide +kernel) rfl ?_
    refine iq_iadd hS 82 J_MScriptRows_give_d81 rfl ?_
    refine iq_putI hS 85 J_MScriptRows_give_d82 lf_15_123 (Or.inl rfl) rfl (ka_71 hM) rfl ?_
    refine iq_aload_n hS 86 J_MScriptRows_give_d85 l16 rfl ?_
    refine iq_getI hS 89 J_MScriptRows_give_d86 lf_15_136 (Or.inr rfl) (ka_71 hM) rfl ?_
    refine iq_if_ne hS 92 J_MScriptRows_give_d89 (t := 93) rfl (fun q89 => ?_) rfl (fun q89 => ?_)
    · replace h := ed_pos q89 h
      refine iq_bipush hS 95 J_MScriptRows_give_d93 (v := 9) (by decide +kernel) rfl ?_
      refine iq_aload_n hS 96 J_MScriptRows_give_d95 l16 rfl ?_
      refine iq_getI hS 99 J_MScriptRows_give_d96 lf_15_155 (Or.inl rfl) (ka_71 hM) rfl ?_
      refine iq_imul hS 100 J_MScriptRows_give_d99 rfl ?_
      refine iq_istore hS 102 J_MScriptRows_give_d100 (by decide) rfl ?_
      refine iq_aload_n hS 103 J_MScriptRows_give_d102 (lk_1r l16 (by decide)) rfl ?_
      refine iq_getR hS 106 J_MScriptRows_give_d103 lf_15_59 (Or.inr ⟨_, rfl⟩) (ka_71 hM) (ra_71_38 hM) rfl ?_
      refine iq_iload hS 108 J_MScriptRows_give_d106 lk_1s rfl ?_
      refine iq_iload_n hS 109 J_MScriptRows_give_d108 (lk_1i l18 (by decide)) rfl ?_
      obtain ⟨g109, h⟩ := ed_gd h
      refine iq_iastore hS 110 J_MScriptRows_give_d109 ⟨(ka_87 hM).1, (ka_87 hM).2, g109.1, ix_lt (kl_87 hM) g109.2⟩ rfl ?_
      refine iq_aload_n hS 111 J_MScriptRows_give_d110 (lk_1r l16 (by decide)) rfl ?_
      refine iq_getR hS 114 J_MScriptRows_give_d111 lf_15_59 (Or.inr ⟨_, rfl⟩) (ka_71 hM) (ra_71_38 hM) rfl ?_
      refine iq_iload hS 116 J_MScriptRows_give_d114 lk_1s rfl ?_
      refine iq_iconst hS 117 J_MScriptRows_give_d116 (v := 1) (by decide +kernel) rfl ?_
      refine iq_iadd hS 118 J_MScriptRows_give_d117 rfl ?_
      refine iq_iload hS 120 J_MScriptRows_give_d118 (lk_1i l22 (by decide)) rfl ?_
      obtain ⟨g120, h⟩ := ed_gd h
      refine iq_iastore hS 121 J_MScriptRows_give_d120 ⟨(ka_87 hM).1, (ka_87 hM).2, g120.1, ix_lt (kl_87 hM) g120.2⟩ rfl ?_
      refine iq_aload_n hS 122 J_MScriptRows_give_d121 (lk_1r l16 (by decide)) rfl ?_
      refine iq_getR hS 125 J_MScriptRows_give_d122 lf_15_59 (Or.inr ⟨_, rfl⟩) (ka_71 hM) (ra_71_38 hM) rfl ?_
      refine iq_iload hS 127 J_MScriptRows_give_d125 lk_1s rfl ?_
      refine iq_iconst hS 128 J_MScriptRows_give_d127 (v := 2) (by decide +kernel) rfl ?_
      refine iq_iadd hS 129 J_MScriptRows_give_d128 rfl ?_
      refine iq_iload hS 131 J_MScriptRows_give_d129 (lk_1i l23 (by decide)) rfl ?_
      obtain ⟨g131, h⟩ := ed_gd h
      refine iq_iastore hS 132 J_MScriptRows_give_d131 ⟨(ka_87 hM).1, (ka_87 hM).2, g131.1, ix_lt (kl_87 hM) g131.2⟩ rfl ?_
      refine iq_aload_n hS 133 J_MScriptRows_give_d132 (lk_1r l16 (by decide)) rfl ?_
      refine iq_getR hS 136 J_MScriptRows_give_d133 lf_15_59 (Or.inr ⟨_, rfl⟩) (ka_71 hM) (ra_71_38 hM) rfl ?_
      refine iq_iload hS 138 J_MScriptRows_give_d136 lk_1s rfl ?_
      refine iq_iconst hS 139 J_MScriptRows_give_d138 (v := 3) (by decide +kernel) rfl ?_
      refine iq_iadd hS 140 J_MScriptRows_give_d139 rfl ?_
      refine iq_iload_n hS 141 J_MScriptRows_give_d140 (lk_1i l19 (by decide)) rfl ?_
      obtain ⟨g141, h⟩ := ed_gd h
      refine iq_iastore hS 142 J_MScriptRows_give_d141 ⟨(ka_87 hM).1, (ka_87 hM).2, g141.1, ix_lt (kl_87 hM) g141.2⟩ rfl ?_
      refine iq_aload_n hS 143 J_MScriptRows_give_d142 (lk_1r l16 (by decide)) rfl ?_
      refine iq_getR hS 146 J_MScriptRows_give_d143 lf_15_59 (Or.inr ⟨_, rfl⟩) (ka_71 hM) (ra_71_38 hM) rfl ?_
      refine iq_iload hS 148 J_MScriptRows_give_d146 lk_1s rfl ?_
      refine iq_iconst hS 149 J_MScriptRows_give_d148 (v := 4) (by decide +kernel) rfl ?_
      refine iq_iadd hS 150 J_MScriptRows_give_d149 rfl ?_
      refine iq_aload_n hS 151 J_MScriptRows_give_d150 (lk_1r l16 (by decide)) rfl ?_
      refine iq_getR hS 154 J_MScriptRows_give_d151 lf_15_44 (Or.inr ⟨_, rfl⟩) (ka_71 hM) (ra_71_28 hM) rfl ?_
      refine iq_bipush hS 156 J_MScriptRows_give_d154 (v := 16) (by decide +kernel) rfl ?_
      refine iq_iload_n hS 157 J_MScriptRows_give_d156 (lk_1i l17 (by decide)) rfl ?_
      refine iq_imul hS 158 J_MScriptRows_give_d157 rfl ?_
      refine iq_bipush hS 160 J_MScriptRows_give_d158 (v := 7) (by decide +kernel) rfl ?_
      refine iq_iadd hS 161 J_MScriptRows_give_d160 rfl ?_
      obtain ⟨g161, h⟩ := ed_gd h
      refine iq_iaload hS 162 J_MScriptRows_give_d161 ⟨(ka_82 hM).1, (ka_82 hM).2, g161.1, ix_lt (kl_82 hM) g161.2⟩ rfl ?_
      obtain ⟨g162, h⟩ := ed_gd h
      refine iq_iastore hS 163 J_MScriptRows_give_d162 ⟨(ka_87 hM).1, (ka_87 hM).2, g162.1, ix_lt (kl_87 hM) g162.2⟩ rfl ?_
      refine iq_aload_n hS 164 J_MScriptRows_give_d163 (lk_1r l16 (by decide)) rfl ?_
      refine iq_getR hS 167 J_MScriptRows_give_d164 lf_15_59 (Or.inr ⟨_, rfl⟩) (ka_71 hM) (ra_71_38 hM) rfl ?_
      refine iq_iload hS 169 J_MScriptRows_give_d167 lk_1s rfl ?_
      refine iq_iconst hS 170 J_MScriptRows_give_d169 (v := 5) (by decide +kernel) rfl ?_
      refine iq_iadd hS 171 J_MScriptRows_give_d170 rfl ?_
      refine iq_iconst hS 172 J_MScriptRows_give_d171 (v := 0) (by decide +kernel) rfl ?_
      obtain ⟨g172, h⟩ := ed_gd h
      refine iq_iastore hS 173 J_MScriptRows_give_d172 ⟨(ka_87 hM).1, (ka_87 hM).2, g172.1, ix_lt (kl_87 hM) g172.2⟩ rfl ?_
      refine iq_aload_n hS 174 J_MScriptRows_give_d173 (lk_1r l16 (by decide)) rfl ?_
      refine iq_getR hS 177 J_MScriptRows_give_d174 lf_15_59 (Or.inr ⟨_, rfl⟩) (ka_71 hM) (ra_71_38 hM) rfl ?_
      refine iq_iload hS 179 J_MScriptRows_give_d177 lk_1s rfl ?_
      refine iq_bipush hS 181 J_MScriptRows_give_d179 (v := 6) (by decide +kernel) rfl ?_
      refine iq_iadd hS 182 J_MScriptRows_give_d181 rfl ?_
      refine iq_iconst hS 183 J_MScriptRows_give_d182 (v := 0) (by decide +kernel) rfl ?_
      obtain ⟨g183, h⟩ := ed_gd h
      refine iq_iastore hS 184 J_MScriptRows_give_d183 ⟨(ka_87 hM).1, (ka_87 hM).2, g183.1, ix_lt (kl_87 hM) g183.2⟩ rfl ?_
      refine iq_aload_n hS 185 J_MScriptRows_give_d184 (lk_1r l16 (by decide)) rfl ?_
      refine iq_getR hS 188 J_MScriptRows_give_d185 lf_15_59 (Or.inr ⟨_, rfl⟩) (ka_71 hM) (ra_71_38 hM) rfl ?_
      refine iq_iload hS 190 J_MScriptRows_give_d188 lk_1s rfl ?_
      refine iq_bipush hS 192 J_MScriptRows_give_d190 (v := 7) (by decide +kernel) rfl ?_
      refine iq_iadd hS 193 J_MScriptRows_give_d192 rfl ?_
      refine iq_iconst hS 194 J_MScriptRows_give_d193 (v := 0) (by decide +kernel) rfl ?_
      obtain ⟨g194, h⟩ := ed_gd h
      refine iq_iastore hS 195 J_MScriptRows_give_d194 ⟨(ka_87 hM).1, (ka_87 hM).2, g194.1, ix_lt (kl_87 hM) g194.2⟩ rfl ?_
      refine iq_aload_n hS 196 J_MScriptRows_give_d195 (lk_1r l16 (by decide)) rfl ?_
      refine iq_getR hS 199 J_MScriptRows_give_d196 lf_15_59 (Or.inr ⟨_, rfl⟩) (ka_71 hM) (ra_71_38 hM) rfl ?_
      refine iq_iload hS 201 J_MScriptRows_give_d199 lk_1s rfl ?_
      refine iq_bipush hS 203 J_MScriptRows_give_d201 (v := 8) (by decide +kernel) rfl ?_
      refine iq_iadd hS 204 J_MScriptRows_give_d203 rfl ?_
      refine iq_iload hS 206 J_MScriptRows_give_d204 (lk_1i l21 (by decide)) rfl ?_
      obtain ⟨g206, h⟩ := ed_gd h
      refine iq_iastore hS 207 J_MScriptRows_give_d206 ⟨(ka_87 hM).1, (ka_87 hM).2, g206.1, ix_lt (kl_87 hM) g206.2⟩ rfl ?_
      refine iq_iconst hS 208 J_MScriptRows_give_d207 (v := 0) (by decide +kernel) rfl ?_
      refine iq_istore hS 210 J_MScriptRows_give_d208 (by decide) rfl ?_
      obtain ⟨Q24, hQ24, h⟩ := bd1_ed h
      have K24 : ∀ (M25 : im_M) (L' : List (Nat × Value)), lw_S w M25 → im_lk L' 0 = some (.ref 71) → Q24 M25 → ia (tb_G L xs) (dep + 2) J_MScriptRows_give (rwV w Q) (288, L', [], M25) := by
        intro M25 L' hM25 l26 h
        replace h := hQ24 _ h
        refine iq_aload_n hS 289 J_MScriptRows_give_d288 l26 rfl ?_
        refine iq_dup hS 290 J_MScriptRows_give_d289 rfl rfl ?_
        refine iq_getI hS 293 J_MScriptRows_give_d290 lf_15_155 (Or.inl rfl) (ka_71 hM25) rfl ?_
        refine iq_iconst hS 294 J_MScriptRows_give_d293 (v := 1) (by decide +kernel) rfl ?_
        refine iq_iadd hS 295 J_MScriptRows_give_d294 rfl ?_
        refine iq_putI hS 298 J_MScriptRows_give_d295 lf_15_155 (Or.inl rfl) rfl (ka_71 hM25) rfl ?_
        exact iq_ret J_MScriptRows_give_d298 rfl ⟨rfl, hM25, ed_some h⟩
      obtain ⟨r24, hr24, hq24⟩ := h
      obtain ⟨n24, hn24⟩ := lp_n hr24
      have I24 : ∀ (n : Nat) (x27 : Int32) (M28 : im_M) (L' : List (Nat × Value)), lw_S w M28 → im_lk L' 0 = some (.ref 71) → im_lk L' 2 = some (.int p1) → im_lk L' 6 = some (.int p5) → im_lk L' 7 = some (.int p6) → im_lk L' 11 = some (.int x27) → lpn (uc2 (f_MScriptRows_give_L210 p1 p5 p6)) n (x27, M28) = some r24 → ia (tb_G L xs) (dep + 2) J_MScriptRows_give (rwV w Q) (210, L', [], M28) := by
        intro n
        induction n with
        | zero => intro x27 M28 L' hM28 l29 l30 l31 l32 l33 hn; exact (lpn_0 hn).elim
        | succ n ih =>
          intro x27 M28 L' hM28 l29 l30 l31 l32 l33 hn
          have h := lpn_ed2 hn
          unfold f_MScriptRows_give_L210 at h
          refine iq_iload hS 212 J_MScriptRows_give_d210 l33 rfl ?_
          refine iq_iload hS 214 J_MScriptRows_give_d212 l32 rfl ?_
          refine iq_icmp_ge hS 217 J_MScriptRows_give_d214 (t := 288) rfl (fun q214 => ?_) rfl (fun q214 => ?_)
          · replace h := ed_pos q214 h
            exact K24 _ _ hM28 l29 (lq_r h hq24)
          · replace h := ed_neg q214 h
            refine iq_aload_n hS 218 J_MScriptRows_give_d217 l29 rfl ?_
            refine iq_getR hS 221 J_MScriptRows_give_d218 lf_15_62 (Or.inr ⟨_, rfl⟩) (ka_71 hM28) (ra_71_39 hM28) rfl ?_
            refine iq_sipush hS 224 J_MScriptRows_give_d221 (v := 200) (by decide +kernel) rfl ?_
            refine iq_aload_n hS 225 J_MScriptRows_give_d224 l29 rfl ?_
            refine iq_getI hS 228 J_MScriptRows_give_d225 lf_15_155 (Or.inl rfl) (ka_71 hM28) rfl ?_
            refine iq_imul hS 229 J_MScriptRows_give_d228 rfl ?_
            refine iq_iload hS 231 J_MScriptRows_give_d229 l33 rfl ?_
            refine iq_iadd hS 232 J_MScriptRows_give_d231 rfl ?_
            refine iq_iload_n hS 233 J_MScriptRows_give_d232 l30 rfl ?_
            refine iq_bipush hS 235 J_MScriptRows_give_d233 (v := 7) (by decide +kernel) rfl ?_
            obtain ⟨Q34, hQ34, h⟩ := bd1_ed h
            have J34 : ∀ (y37 : Int32) (L' : List (Nat × Value)), im_lk L' 0 = some (.ref 71) → im_lk L' 2 = some (.int p1) → im_lk L' 6 = some (.int p5) → im_lk L' 7 = some (.int p6) → im_lk L' 11 = some (.int x27) → Q34 y37 → ia (tb_G L xs) (dep + 2) J_MScriptRows_give (rwV w Q) (281, L', [.int y37, .int (((200 : Int32) * (im_i M28 71 37)) + x27), .ref 88], M28) := by
              intro y37 L' l38 l39 l40 l41 l42 h
              replace h := hQ34 _ h
              obtain ⟨g281, h⟩ := ed_gd h
              refine iq_iastore hS 282 J_MScriptRows_give_d281 ⟨(ka_88 hM28).1, (ka_88 hM28).2, g281.1, ix_lt (kl_88 hM28) g281.2⟩ rfl ?_
              refine iq_iincv hS 285 J_MScriptRows_give_d282 (c := 1) (by decide +kernel) l42 (by decide) rfl ?_
              refine iq_goto hS J_MScriptRows_give_d285 (t := 210) rfl ?_
              exact ih _ _ _ hM28 (lk_1r l38 (by decide)) (lk_1i l39 (by decide)) (lk_1i l40 (by decide)) (lk_1i l41 (by decide)) lk_1s (lq_l h)
            refine iq_icmp_ne hS 238 J_MScriptRows_give_d235 (t := 271) rfl (fun q235 => ?_) rfl (fun q235 => ?_)
            · replace h := ed_pos q235 h
              refine iq_aload_n hS 272 J_MScriptRows_give_d271 l29 rfl ?_
              refine iq_getR hS 275 J_MScriptRows_give_d272 lf_15_53 (Or.inr ⟨_, rfl⟩) (ka_71 hM28) (ra_71_31 hM28) rfl ?_
              refine iq_iload hS 277 J_MScriptRows_give_d275 l31 rfl ?_
              refine iq_iload hS 279 J_MScriptRows_give_d277 l33 rfl ?_
              refine iq_iadd hS 280 J_MScriptRows_give_d279 rfl ?_
              obtain ⟨g280, h⟩ := ed_gd h
              refine iq_iaload hS 281 J_MScriptRows_give_d280 ⟨(ka_85 hM28).1, (ka_85 hM28).2, g280.1, ix_lt (kl_85 hM28) g280.2⟩ rfl ?_
              exact J34 _ _ l29 l30 l31 l32 l33 (ed_some h)
            · replace h := ed_neg q235 h
              refine iq_bipush hS 240 J_MScriptRows_give_d238 (v := 16) (by decide +kernel) rfl ?_
              refine iq_aload_n hS 241 J_MScriptRows_give_d240 l29 rfl ?_
              refine iq_getR hS 244 J_MScriptRows_give_d241 lf_15_53 (Or.inr ⟨_, rfl⟩) (ka_71 hM28) (ra_71_31 hM28) rfl ?_
              refine iq_iconst hS 245 J_MScriptRows_give_d244 (v := 2) (by decide +kernel) rfl ?_
              refine iq_iload hS 247 J_MScriptRows_give_d245 l33 rfl ?_
              refine iq_imul hS 248 J_MScriptRows_give_d247 rfl ?_
              obtain ⟨g248, h⟩ := ed_gd h
              refine iq_iaload hS 249 J_MScriptRows_give_d248 ⟨(ka_85 hM28).1, (ka_85 hM28).2, g248.1, ix_lt (kl_85 hM28) g248.2⟩ rfl ?_
              obtain ⟨Q35, hQ35, h⟩ := bd1_ed h
              refine iq_cpI hS 252 J_MScriptRows_give_d249 rfl (pr_stat (vs := [_]) lc_15_104 lT_288 rfl rfl (by decide) rfl (Nat.le_of_ble_eq_true rfl) (Nat.le_of_ble_eq_true rfl)) (f_MScriptRows_hex_ok (dep := dep + 0) hM28 h) rfl ?_
              intro x35 h
              replace h := hQ35 _ h
              refine iq_imul hS 253 J_MScriptRows_give_d252 rfl ?_
              refine iq_aload_n hS 254 J_MScriptRows_give_d253 l29 rfl ?_
              refine iq_getR hS 257 J_MScriptRows_give_d254 lf_15_53 (Or.inr ⟨_, rfl⟩) (ka_71 hM28) (ra_71_31 hM28) rfl ?_
              refine iq_iconst hS 258 J_MScriptRows_give_d257 (v := 2) (by decide +kernel) rfl ?_
              refine iq_iload hS 260 J_MScriptRows_give_d258 l33 rfl ?_
              refine iq_imul hS 261 J_MScriptRows_give_d260 rfl ?_
              refine iq_iconst hS 262 J_MScriptRows_give_d261 (v := 1) (by decide +kernel) rfl ?_
              refine iq_iadd hS 263 J_MScriptRows_give_d262 rfl ?_
              obtain ⟨g263, h⟩ := ed_gd h
              refine iq_iaload hS 264 J_MScriptRows_give_d263 ⟨(ka_85 hM28).1, (ka_85 hM28).2, g263.1, ix_lt (kl_85 hM28) g263.2⟩ rfl ?_
              obtain ⟨Q36, hQ36, h⟩ := bd1_ed h
              refine iq_cpI hS 267 J_MScriptRows_give_d264 rfl (pr_stat (vs := [_]) lc_15_104 lT_288 rfl rfl (by decide) rfl (Nat.le_of_ble_eq_true rfl) (Nat.le_of_ble_eq_true rfl)) (f_MScriptRows_hex_ok (dep := dep + 0) hM28 h) rfl ?_
              intro x36 h
              replace h := hQ36 _ h
              refine iq_iadd hS 268 J_MScriptRows_give_d267 rfl ?_
              refine iq_goto hS J_MScriptRows_give_d268 (t := 281) rfl ?_
              exact J34 _ _ l29 l30 l31 l32 l33 (ed_some h)
      exact I24 n24 _ _ _ hM (lk_1r (lk_1r l16 (by decide)) (by decide)) (lk_1i (lk_1i l18 (by decide)) (by decide)) (lk_1i (lk_1i l20 (by decide)) (by decide)) (lk_1i (lk_1i l21 (by decide)) (by decide)) lk_1s hn24
    · replace h := ed_neg q89 h
      exact iq_ret J_MScriptRows_give_d92 rfl ⟨rfl, hM, ed_some h⟩
  obtain ⟨k4, Q4, hQ4, hk4, h⟩ := jn0_ed h
  have J4 : ∀  (L' : List (Nat × Value)), im_lk L' 0 = some (.ref 71) → im_lk L' 1 = some (.int p0) → im_lk L' 2 = some (.int p1) → im_lk L' 3 = some (.int p2) → im_lk L' 6 = some (.int p5) → im_lk L' 7 = some (.int p6) → im_lk L' 8 = some (.int x1) → im_lk L' 9 = some (.int x2) → Q4 () → ia (tb_G L xs) (dep + 2) J_MScriptRows_give (rwV w Q) (67, L', [.ref 71], M) := by
    intro  L' l7 l8 l9 l10 l11 l12 l13 l14 h
    replace h := hQ4  h
    refine iq_iconst hS 68 J_MScriptRows_give_d67 (v := 1) (by decide +kernel) rfl ?_
    refine iq_goto hS J_MScriptRows_give_d68 (t := 72) rfl ?_
    exact J3 _ _ l7 l8 l9 l10 l11 l12 l13 l14 (ed_some h)
  refine iq_if_ne hS 51 J_MScriptRows_give_d48 (t := 67) rfl (fun q48 => ?_) rfl (fun q48 => ?_)
  · replace h := ed_pos q48 h
    exact J4  _ (lk_1r (lk_1r l0 (by decide)) (by decide)) (lk_1i (lk_1i l1 (by decide)) (by decide)) (lk_1i (lk_1i l2 (by decide)) (by decide)) (lk_1i (lk_1i l3 (by decide)) (by decide)) (lk_1i (lk_1i l6 (by decide)) (by decide)) (lk_1i (lk_1i l7 (by decide)) (by decide)) (lk_1i lk_1s (by decide)) lk_1s (hk4  h)
  · replace h := ed_neg q48 h
    refine iq_iload hS 53 J_MScriptRows_give_d51 (lk_1i lk_1s (by decide)) rfl ?_
    obtain ⟨Q5, hQ5, h⟩ := bd1_ed h
    refine iq_cpI hS 56 J_MScriptRows_give_d53 rfl (pr_stat (vs := [_]) lc_15_152 lT_299 rfl rfl (by decide) rfl (Nat.le_of_ble_eq_true rfl) (Nat.le_of_ble_eq_true rfl)) (f_MScriptRows_isFar_ok (dep := dep + 1) hM h) rfl ?_
    intro x5 h
    replace h := hQ5 _ h
    refine iq_if_ne hS 59 J_MScriptRows_give_d56 (t := 67) rfl (fun q56 => ?_) rfl (fun q56 => ?_)
    · replace h := ed_pos q56 h
      exact J4  _ (lk_1r (lk_1r l0 (by decide)) (by decide)) (lk_1i (lk_1i l1 (by decide)) (by decide)) (lk_1i (lk_1i l2 (by decide)) (by decide)) (lk_1i (lk_1i l3 (by decide)) (by decide)) (lk_1i (lk_1i l6 (by decide)) (by decide)) (lk_1i (lk_1i l7 (by decide)) (by decide)) (lk_1i lk_1s (by decide)) lk_1s (hk4  h)
    · replace h := ed_neg q56 h
      refine iq_iload hS 61 J_MScriptRows_give_d59 lk_1s rfl ?_
      obtain ⟨Q6, hQ6, h⟩ := bd1_ed h
      refine iq_cpI hS 64 J_MScriptRows_give_d61 rfl (pr_stat (vs := [_]) lc_15_152 lT_299 rfl rfl (by decide) rfl (Nat.le_of_ble_eq_true rfl) (Nat.le_of_ble_eq_true rfl)) (f_MScriptRows_isFar_ok (dep := dep + 1) hM h) rfl ?_
      intro x6 h
      replace h := hQ6 _ h
      refine iq_if_eq hS 67 J_MScriptRows_give_d64 (t := 71) rfl (fun q64 => ?_) rfl (fun q64 => ?_)
      · replace h := ed_pos q64 h
        refine iq_iconst hS 72 J_MScriptRows_give_d71 (v := 0) (by decide +kernel) rfl ?_
        exact J3 _ _ (lk_1r (lk_1r l0 (by decide)) (by decide)) (lk_1i (lk_1i l1 (by decide)) (by decide)) (lk_1i (lk_1i l2 (by decide)) (by decide)) (lk_1i (lk_1i l3 (by decide)) (by decide)) (lk_1i (lk_1i l6 (by decide)) (by decide)) (lk_1i (lk_1i l7 (by decide)) (by decide)) (lk_1i lk_1s (by decide)) lk_1s (ed_some h)
      · replace h := ed_neg q64 h
        exact J4  _ (lk_1r (lk_1r l0 (by decide)) (by decide)) (lk_1i (lk_1i l1 (by decide)) (by decide)) (lk_1i (lk_1i l2 (by decide)) (by decide)) (lk_1i (lk_1i l3 (by decide)) (by decide)) (lk_1i (lk_1i l6 (by decide)) (by decide)) (lk_1i (lk_1i l7 (by decide)) (by decide)) (lk_1i lk_1s (by decide)) lk_1s (hk4  h)
noncomputable def f_MScriptRows_have (p0 : Int32) (p1 : Int32) (p2 : Int32) (M : im_M) : Option (im_M) := if (im_i M 71 33) = 0 then some M else gd (inb (((9 : Int32) * (im_i M 71 37)) - 4) 1080) <| gd (inb (((9 : Int32) * (im_i (im_setI M 87 (Int32.toNatClampNeg (((9 : Int32) * (im_i M 71 37)) - 4)) p0) 71 37)) - 3) 1080) <| gd (inb (((9 : Int32) * (im_i (im_setI (im_setI M 87 (Int32.toNatClampNeg (((9 : Int32) * (im_i M 71 37)) - 4)) p0) 87 (Int32.toNatClampNeg (((9 : Int32) * (im_i (im_setI M 87 (Int32.toNatClampNeg (((9 : Int32) * (im_i M 71 37)) - 4)) p0) 71 37)) - 3)) p1) 71 37)) - 2) 1080) <| some (im_setI (im_setI (im_setI M 87 (Int32.toNatClampNeg (((9 : Int32) * (im_i M 71 37)) - 4)) p0) 87 (Int32.toNatClampNeg (((9 : Int32) * (im_i (im_setI M 87 (Int32.toNatClampNeg (((9 : Int32) * (im_i M 71 37)) - 4)) p0) 71 37)) - 3)) p1) 87 (Int32.toNatClampNeg (((9 : Int32) * (im_i (im_setI (im_setI M 87 (Int32.toNatClampNeg (((9 : Int32) * (im_i M 71 37)) - 4)) p0) 87 (Int32.toNatClampNeg (((9 : Int32) * (im_i (im_setI M 87 (Int32.toNatClampNeg (((9 : Int32) * (im_i M 71 37)) - 4)) p0) 71 37)) - 3)) p1) 71 37)) - 2)) p2)
theorem J_MScriptRows_have_d0 : decode J_MScriptRows_have.2.1 0 = .ok (.aload_n 0, 1) := by decide +kernel
theorem J_MScriptRows_have_d1 : decode J_MScriptRows_have.2.1 1 = .ok (.getfield 136, 3) := by decide +kernel
theorem J_MScriptRows_have_d4 : decode J_MScriptRows_have.2.1 4 = .ok (.ifCond .eq 48, 3) := by decide +kernel
theorem J_MScriptRows_have_d7 : decode J_MScriptRows_have.2.1 7 = .ok (.aload_n 0, 1) := by decide +kernel
theorem J_MScriptRows_have_d8 : decode J_MScriptRows_have.2.1 8 = .ok (.getfield 59, 3) := by decide +kernel
theorem J_MScriptRows_have_d11 : decode J_MScriptRows_have.2.1 11 = .ok (.bipush 9, 2) := by decide +kernel
theorem J_MScriptRows_have_d13 : decode J_MScriptRows_have.2.1 13 = .ok (.aload_n 0, 1) := by decide +kernel
theorem J_MScriptRows_have_d14 : decode J_MScriptRows_have.2.1 14 = .ok (.getfield 155, 3) := by decide +kernel
theorem J_MScriptRows_have_d17 : decode J_MScriptRows_have.2.1 17 = .ok (.imul, 1) := by decide +kernel
theorem J_MScriptRows_have_d18 : decode J_MScriptRows_have.2.1 18 = .ok (.iconst 4, 1) := by decide +kernel
theorem J_MScriptRows_have_d19 : decode J_MScriptRows_have.2.1 19 = .ok (.isub, 1) := by decide +kernel
theorem J_MScriptRows_have_d20 : decode J_MScriptRows_have.2.1 20 = .ok (.iload_n 1, 1) := by decide +kernel
theorem J_MScriptRows_have_d21 : decode J_MScriptRows_have.2.1 21 = .ok (.iastore, 1) := by decide +kernel
theorem J_MScriptRows_have_d22 : decode J_MScriptRows_have.2.1 22 = .ok (.aload_n 0, 1) := by decide +kernel
theorem J_MScriptRows_have_d23 : decode J_MScriptRows_have.2.1 23 = .ok (.getfield 59, 3) := by decide +kernel
theorem J_MScriptRows_have_d26 : decode J_MScriptRows_have.2.1 26 = .ok (.bipush 9, 2) := by decide +kernel
theorem J_MScriptRows_have_d28 : decode J_MScriptRows_have.2.1 28 = .ok (.aload_n 0, 1) := by decide +kernel
theorem J_MScriptRows_have_d29 : decode J_MScriptRows_have.2.1 29 = .ok (.getfield 155, 3) := by decide +kernel
theorem J_MScriptRows_have_d32 : decode J_MScriptRows_have.2.1 32 = .ok (.imul, 1) := by decide +kernel
theorem J_MScriptRows_have_d33 : decode J_MScriptRows_have.2.1 33 = .ok (.iconst 3, 1) := by decide +kernel
theorem J_MScriptRows_have_d34 : decode J_MScriptRows_have.2.1 34 = .ok (.isub, 1) := by decide +kernel
theorem J_MScriptRows_have_d35 : decode J_MScriptRows_have.2.1 35 = .ok (.iload_n 2, 1) := by decide +kernel
theorem J_MScriptRows_have_d36 : decode J_MScriptRows_have.2.1 36 = .ok (.iastore, 1) := by decide +kernel
theorem J_MScriptRows_have_d37 : decode J_MScriptRows_have.2.1 37 = .ok (.aload_n 0, 1) := by decide +kernel
theorem J_MScriptRows_have_d38 : decode J_MScriptRows_have.2.1 38 = .ok (.getfield 59, 3) := by decide +kernel
theorem J_MScriptRows_have_d41 : decode J_MScriptRows_have.2.1 41 = .ok (.bipush 9, 2) := by decide +kernel
theorem J_MScriptRows_have_d43 : decode J_MScriptRows_have.2.1 43 = .ok (.aload_n 0, 1) := by decide +kernel
theorem J_MScriptRows_have_d44 : decode J_MScriptRows_have.2.1 44 = .ok (.getfield 155, 3) := by decide +kernel
theorem J_MScriptRows_have_d47 : decode J_MScriptRows_have.2.1 47 = .ok (.imul, 1) := by decide +kernel
theorem J_MScriptRows_have_d48 : decode J_MScriptRows_have.2.1 48 = .ok (.iconst 2, 1) := by decide +kernel
theorem J_MScriptRows_have_d49 : decode J_MScriptRows_have.2.1 49 = .ok (.isub, 1) := by decide +kernel
theorem J_MScriptRows_have_d50 : decode J_MScriptRows_have.2.1 50 = .ok (.iload_n 3, 1) := by decide +kernel
theorem J_MScriptRows_have_d51 : decode J_MScriptRows_have.2.1 51 = .ok (.iastore, 1) := by decide +kernel
theorem J_MScriptRows_have_d52 : decode J_MScriptRows_have.2.1 52 = .ok (.return_, 1) := by decide +kernel
theorem f_MScriptRows_have_ok {L : Nat} {xs : Nat → Int32} {dep : Nat} {w : Bool} {p0 : Int32} {p1 : Int32} {p2 : Int32} {M : im_M} {Q : im_M → Prop} (hM : lw_S w M) (h : ed (f_MScriptRows_have p0 p1 p2 M) Q) : ia (tb_G L xs) dep J_MScriptRows_have (rwV w Q) (0, lv_args 0 [.ref 71, .int p0, .int p1, .int p2], [], M) := by
  have hS : im_St (tb_G L xs) dep J_MScriptRows_have (ia (tb_G L xs) dep J_MScriptRows_have (rwV w Q)) := ia_St
  unfold f_MScriptRows_have at h
  have l0 : im_lk (lv_args 0 [.ref 71, .int p0, .int p1, .int p2]) 0 = some (.ref 71) := rfl
  have l1 : im_lk (lv_args 0 [.ref 71, .int p0, .int p1, .int p2]) 1 = some (.int p0) := rfl
  have l2 : im_lk (lv_args 0 [.ref 71, .int p0, .int p1, .int p2]) 2 = some (.int p1) := rfl
  have l3 : im_lk (lv_args 0 [.ref 71, .int p0, .int p1, .int p2]) 3 = some (.int p2) := rfl
  refine iq_aload_n hS 1 J_MScriptRows_have_d0 l0 rfl ?_
  refine iq_getI hS 4 J_MScriptRows_have_d1 lf_15_136 (Or.inr rfl) (ka_71 hM) rfl ?_
  refine iq_if_eq hS 7 J_MScriptRows_have_d4 (t := 52) rfl (fun q4 => ?_) rfl (fun q4 => ?_)
  · replace h := ed_pos q4 h
    exact iq_ret J_MScriptRows_have_d52 rfl ⟨rfl, hM, ed_some h⟩
  · replace h := ed_neg q4 h
    refine iq_aload_n hS 8 J_MScriptRows_have_d7 l0 rfl ?_
    refine iq_getR hS 11 J_MScriptRows_have_d8 lf_15_59 (Or.inr ⟨_, rfl⟩) (ka_71 hM) (ra_71_38 hM) rfl ?_
    refine iq_bipush hS 13 J_MScriptRows_have_d11 (v := 9) (by decide +kernel) rfl ?_
    refine iq_aload_n hS 14 J_MScriptRows_have_d13 l0 rfl ?_
    refine iq_getI hS 17 J_MScriptRows_have_d14 lf_15_155 (Or.inl rfl) (ka_71 hM) rfl ?_
    refine iq_imul hS 18 J_MScriptRows_have_d17 rfl ?_
    refine iq_iconst hS 19 J_MScriptRows_have_d18 (v := 4) (by decide +kernel) rfl ?_
    refine iq_isub hS 20 J_MScriptRows_have_d19 rfl ?_
    refine iq_iload_n hS 21 J_MScriptRows_have_d20 l1 rfl ?_
    obtain ⟨g21, h⟩ := ed_gd h
    refine iq_iastore hS 22 J_MScriptRows_have_d21 ⟨(ka_87 hM).1, (ka_87 hM).2, g21.1, ix_lt (kl_87 hM) g21.2⟩ rfl ?_
    refine iq_aload_n hS 23 J_MScriptRows_have_d22 l0 rfl ?_
    refine iq_getR hS 26 J_MScriptRows_have_d23 lf_15_59 (Or.inr ⟨_, rfl⟩) (ka_71 hM) (ra_71_38 hM) rfl ?_
    refine iq_bipush hS 28 J_MScriptRows_have_d26 (v := 9) (by decide +kernel) rfl ?_
    refine iq_aload_n hS 29 J_MScriptRows_have_d28 l0 rfl ?_
    refine iq_getI hS 32 J_MScriptRows_have_d29 lf_15_155 (Or.inl rfl) (ka_71 hM) rfl ?_
    refine iq_imul hS 33 J_MScriptRows_have_d32 rfl ?_
    refine iq_iconst hS 34 J_MScriptRows_have_d33 (v := 3) (by decide +kernel) rfl ?_
    refine iq_isub hS 35 J_MScriptRows_have_d34 rfl ?_
    refine iq_iload_n hS 36 J_MScriptRows_have_d35 l2 rfl ?_
    obtain ⟨g36, h⟩ := ed_gd h
    refine iq_iastore hS 37 J_MScriptRows_have_d36 ⟨(ka_87 hM).1, (ka_87 hM).2, g36.1, ix_lt (kl_87 hM) g36.2⟩ rfl ?_
    refine iq_aload_n hS 38 J_MScriptRows_have_d37 l0 rfl ?_
    refine iq_getR hS 41 J_MScriptRows_have_d38 lf_15_59 (Or.inr ⟨_, rfl⟩) (ka_71 hM) (ra_71_38 hM) rfl ?_
    refine iq_bipush hS 43 J_MScriptRows_have_d41 (v := 9) (by decide +kernel) rfl ?_
    refine iq_aload_n hS 44 J_MScriptRows_have_d43 l0 rfl ?_
    refine iq_getI hS 47 J_MScriptRows_have_d44 lf_15_155 (Or.inl rfl) (ka_71 hM) rfl ?_
    refine iq_imul hS 48 J_MScriptRows_have_d47 rfl ?_
    refine iq_iconst hS 49 J_MScriptRows_have_d48 (v := 2) (by decide +kernel) rfl ?_
    refine iq_isub hS 50 J_MScriptRows_have_d49 rfl ?_
    refine iq_iload_n hS 51 J_MScriptRows_have_d50 l3 rfl ?_
    obtain ⟨g51, h⟩ := ed_gd h
    refine iq_iastore hS 52 J_MScriptRows_have_d51 ⟨(ka_87 hM).1, (ka_87 hM).2, g51.1, ix_lt (kl_87 hM) g51.2⟩ rfl ?_
    exact iq_ret J_MScriptRows_have_d52 rfl ⟨rfl, hM, ed_some h⟩
noncomputable def f_MScriptRows_pieceEnd_L2 (v2 : Int32) (M4 : im_M) (x3 : Int32) : Option ((Int32) ⊕ (Int32)) := if v2 ≤ x3 then some (.inr x3) else gd (inb x3 200) <| if (im_i M4 85 (Int32.toNatClampNeg x3)) = 10 then some (.inr x3) else some (.inl (x3 + 1))
noncomputable def f_MScriptRows_pieceEnd (p0 : Int32) (p1 : Int32) (M : im_M) : Option (Int32) := bd1 (lp (uc1 (f_MScriptRows_pieceEnd_L2 p1 M)) p0) fun (y5 : Int32) => some y5
theorem J_MScriptRows_pieceEnd_d0 : decode J_MScriptRows_pieceEnd.2.1 0 = .ok (.iload_n 1, 1) := by decide +kernel
theorem J_MScriptRows_pieceEnd_d1 : decode J_MScriptRows_pieceEnd.2.1 1 = .ok (.istore_n 3, 1) := by decide +kernel
theorem J_MScriptRows_pieceEnd_d2 : decode J_MScriptRows_pieceEnd.2.1 2 = .ok (.iload_n 3, 1) := by decide +kernel
theorem J_MScriptRows_pieceEnd_d3 : decode J_MScriptRows_pieceEnd.2.1 3 = .ok (.iload_n 2, 1) := by decide +kernel
theorem J_MScriptRows_pieceEnd_d4 : decode J_MScriptRows_pieceEnd.2.1 4 = .ok (.if_icmp .ge 20, 3) := by decide +kernel
theorem J_MScriptRows_pieceEnd_d7 : decode J_MScriptRows_pieceEnd.2.1 7 = .ok (.aload_n 0, 1) := by decide +kernel
theorem J_MScriptRows_pieceEnd_d8 : decode J_MScriptRows_pieceEnd.2.1 8 = .ok (.getfield 53, 3) := by decide +kernel
theorem J_MScriptRows_pieceEnd_d11 : decode J_MScriptRows_pieceEnd.2.1 11 = .ok (.iload_n 3, 1) := by decide +kernel
theorem J_MScriptRows_pieceEnd_d12 : decode J_MScriptRows_pieceEnd.2.1 12 = .ok (.iaload, 1) := by decide +kernel
theorem J_MScriptRows_pieceEnd_d13 : decode J_MScriptRows_pieceEnd.2.1 13 = .ok (.bipush 10, 2) := by decide +kernel
theorem J_MScriptRows_pieceEnd_d15 : decode J_MScriptRows_pieceEnd.2.1 15 = .ok (.if_icmp .eq 9, 3) := by decide +kernel
theorem J_MScriptRows_pieceEnd_d18 : decode J_MScriptRows_pieceEnd.2.1 18 = .ok (.iinc 3 1, 3) := by decide +kernel
theorem J_MScriptRows_pieceEnd_d21 : decode J_MScriptRows_pieceEnd.2.1 21 = .ok (.goto (-19), 3) := by decide +kernel
theorem J_MScriptRows_pieceEnd_d24 : decode J_MScriptRows_pieceEnd.2.1 24 = .ok (.iload_n 3, 1) := by decide +kernel
theorem J_MScriptRows_pieceEnd_d25 : decode J_MScriptRows_pieceEnd.2.1 25 = .ok (.ireturn, 1) := by decide +kernel
theorem f_MScriptRows_pieceEnd_ok {L : Nat} {xs : Nat → Int32} {dep : Nat} {w : Bool} {p0 : Int32} {p1 : Int32} {M : im_M} {Q : Int32 → Prop} (hM : lw_S w M) (h : ed (f_MScriptRows_pieceEnd p0 p1 M) Q) : ia (tb_G L xs) dep J_MScriptRows_pieceEnd (rpI M Q) (0, lv_args 0 [.ref 71, .int p0, .int p1], [], M) := by
  have hS : im_St (tb_G L xs) dep J_MScriptRows_pieceEnd (ia (tb_G L xs) dep J_MScriptRows_pieceEnd (rpI M Q)) := ia_St
  unfold f_MScriptRows_pieceEnd at h
  have l0 : im_lk (lv_args 0 [.ref 71, .int p0, .int p1]) 0 = some (.ref 71) := rfl
  have l1 : im_lk (lv_args 0 [.ref 71, .int p0, .int p1]) 1 = some (.int p0) := rfl
  have l2 : im_lk (lv_args 0 [.ref 71, .int p0, .int p1]) 2 = some (.int p1) := rfl
  refine iq_iload_n hS 1 J_MScriptRows_pieceEnd_d0 l1 rfl ?_
  refine iq_istore_n hS 2 J_MScriptRows_pieceEnd_d1 (by decide) rfl ?_
  obtain ⟨Q1, hQ1, h⟩ := bd1_ed h
  have K1 : ∀ (y2 : Int32) (L' : List (Nat × Value)), im_lk L' 3 = some (.int y2) → Q1 y2 → ia (tb_G L xs) dep J_MScriptRows_pieceEnd (rpI M Q) (24, L', [], M) := by
    intro y2 L' l3 h
    replace h := hQ1 _ h
    refine iq_iload_n hS 25 J_MScriptRows_pieceEnd_d24 l3 rfl ?_
    exact iq_iret J_MScriptRows_pieceEnd_d25 rfl rfl ⟨_, rfl, rfl, ed_some h⟩
  obtain ⟨r1, hr1, hq1⟩ := h
  obtain ⟨n1, hn1⟩ := lp_n hr1
  have I1 : ∀ (n : Nat) (x4 : Int32) (L' : List (Nat × Value)), im_lk L' 0 = some (.ref 71) → im_lk L' 2 = some (.int p1) → im_lk L' 3 = some (.int x4) → lpn (uc1 (f_MScriptRows_pieceEnd_L2 p1 M)) n x4 = some r1 → ia (tb_G L xs) dep J_MScriptRows_pieceEnd (rpI M Q) (2, L', [], M) := by
    intro n
    induction n with
    | zero => intro x4 L' l5 l6 l7 hn; exact (lpn_0 hn).elim
    | succ n ih =>
      intro x4 L' l5 l6 l7 hn
      have h := lpn_ed1 hn
      unfold f_MScriptRows_pieceEnd_L2 at h
      refine iq_iload_n hS 3 J_MScriptRows_pieceEnd_d2 l7 rfl ?_
      refine iq_iload_n hS 4 J_MScriptRows_pieceEnd_d3 l6 rfl ?_
      refine iq_icmp_ge hS 7 J_MScriptRows_pieceEnd_d4 (t := 24) rfl (fun q4 => ?_) rfl (fun q4 => ?_)
      · replace h := ed_pos q4 h
        exact K1 _ _ l7 (lq_r h hq1)
      · replace h := ed_neg q4 h
        refine iq_aload_n hS 8 J_MScriptRows_pieceEnd_d7 l5 rfl ?_
        refine iq_getR hS 11 J_MScriptRows_pieceEnd_d8 lf_15_53 (Or.inr ⟨_, rfl⟩) (ka_71 hM) (ra_71_31 hM) rfl ?_
        refine iq_iload_n hS 12 J_MScriptRows_pieceEnd_d11 l7 rfl ?_
        obtain ⟨g12, h⟩ := ed_gd h
        refine iq_iaload hS 13 J_MScriptRows_pieceEnd_d12 ⟨(ka_85 hM).1, (ka_85 hM).2, g12.1, ix_lt (kl_85 hM) g12.2⟩ rfl ?_
        refine iq_bipush hS 15 J_MScriptRows_pieceEnd_d13 (v := 10) (by decide +kernel) rfl ?_
        refine iq_icmp_eq hS 18 J_MScriptRows_pieceEnd_d15 (t := 24) rfl (fun q15 => ?_) rfl (fun q15 => ?_)
        · replace h := ed_pos q15 h
          exact K1 _ _ l7 (lq_r h hq1)
        · replace h := ed_neg q15 h
          refine iq_iincv hS 21 J_MScriptRows_pieceEnd_d18 (c := 1) (by decide +kernel) l7 (by decide) rfl ?_
          refine iq_goto hS J_MScriptRows_pieceEnd_d21 (t := 2) rfl ?_
          exact ih _ _ (lk_1r l5 (by decide)) (lk_1i l6 (by decide)) lk_1s (lq_l h)
  exact I1 n1 _ _ (lk_1r l0 (by decide)) (lk_1i l2 (by decide)) lk_1s hn1
noncomputable def f_MScriptRows_giveLine (p0 : Int32) (p1 : Int32) (p2 : Int32) (p3 : Int32) (M : im_M) : Option (im_M) := gd (inb (((16 : Int32) * p0) + 1) 2000) <| gd (inb (((16 : Int32) * p0) + 3) 2000) <| bd1 (if ¬ (im_i M 82 (Int32.toNatClampNeg (((16 : Int32) * p0) + 3))) = 0 then gd (inb (((16 : Int32) * p0) + 3) 2000) <| if ¬ (im_i M 82 (Int32.toNatClampNeg (((16 : Int32) * p0) + 3))) = 1 then gd (inb (((16 : Int32) * p0) + 4) 2000) <| some ((im_i M 82 (Int32.toNatClampNeg (((16 : Int32) * p0) + 4))) * (((im_i M 82 (Int32.toNatClampNeg (((16 : Int32) * p0) + 1))) - p3) / 2)) else gd (inb (((16 : Int32) * p0) + 4) 2000) <| some ((im_i M 82 (Int32.toNatClampNeg (((16 : Int32) * p0) + 4))) * ((im_i M 82 (Int32.toNatClampNeg (((16 : Int32) * p0) + 1))) - p3)) else some 0) fun (y2 : Int32) => gd (inb (((16 : Int32) * p0) + 14) 2000) <| gd (inb (((16 : Int32) * p0) + 2) 2000) <| bd1 (f_MScriptRows_give p0 0 (im_i M 82 (Int32.toNatClampNeg (((16 : Int32) * p0) + 14))) y2 (p1 * (im_i M 82 (Int32.toNatClampNeg (((16 : Int32) * p0) + 2)))) p2 p3 M) fun (M9 : im_M) => gd (inb (((16 : Int32) * p0) + 11) 2000) <| gd (inb (((16 : Int32) * p0) + 12) 2000) <| gd (inb (((16 : Int32) * p0) + 13) 2000) <| bd1 (f_MScriptRows_have (im_i M9 82 (Int32.toNatClampNeg (((16 : Int32) * p0) + 11))) (im_i M9 82 (Int32.toNatClampNeg (((16 : Int32) * p0) + 12))) (im_i M9 82 (Int32.toNatClampNeg (((16 : Int32) * p0) + 13))) M9) fun (M10 : im_M) => some M10
theorem J_MScriptRows_giveLine_d0 : decode J_MScriptRows_giveLine.2.1 0 = .ok (.bipush 16, 2) := by decide +kernel
theorem J_MScriptRows_giveLine_d2 : decode J_MScriptRows_giveLine.2.1 2 = .ok (.iload_n 1, 1) := by decide +kernel
theorem J_MScriptRows_giveLine_d3 : decode J_MScriptRows_giveLine.2.1 3 = .ok (.imul, 1) := by decide +kernel
theorem J_MScriptRows_giveLine_d4 : decode J_MScriptRows_giveLine.2.1 4 = .ok (.istore 5, 2) := by decide +kernel
theorem J_MScriptRows_giveLine_d6 : decode J_MScriptRows_giveLine.2.1 6 = .ok (.aload_n 0, 1) := by decide +kernel
theorem J_MScriptRows_giveLine_d7 : decode J_MScriptRows_giveLine.2.1 7 = .ok (.getfield 44, 3) := by decide +kernel
theorem J_MScriptRows_giveLine_d10 : decode J_MScriptRows_giveLine.2.1 10 = .ok (.iload 5, 2) := by decide +kernel
theorem J_MScriptRows_giveLine_d12 : decode J_MScriptRows_giveLine.2.1 12 = .ok (.iconst 1, 1) := by decide +kernel
theorem J_MScriptRows_giveLine_d13 : decode J_MScriptRows_giveLine.2.1 13 = .ok (.iadd, 1) := by decide +kernel
theorem J_MScriptRows_giveLine_d14 : decode J_MScriptRows_giveLine.2.1 14 = .ok (.iaload, 1) := by decide +kernel
theorem J_MScriptRows_giveLine_d15 : decode J_MScriptRows_giveLine.2.1 15 = .ok (.iload 4, 2) := by decide +kernel
theorem J_MScriptRows_giveLine_d17 : decode J_MScriptRows_giveLine.2.1 17 = .ok (.isub, 1) := by decide +kernel
theorem J_MScriptRows_giveLine_d18 : decode J_MScriptRows_giveLine.2.1 18 = .ok (.istore 6, 2) := by decide +kernel
theorem J_MScriptRows_giveLine_d20 : decode J_MScriptRows_giveLine.2.1 20 = .ok (.aload_n 0, 1) := by decide +kernel
theorem J_MScriptRows_giveLine_d21 : decode J_MScriptRows_giveLine.2.1 21 = .ok (.getfield 44, 3) := by decide +kernel
theorem J_MScriptRows_giveLine_d24 : decode J_MScriptRows_giveLine.2.1 24 = .ok (.iload 5, 2) := by decide +kernel
theorem J_MScriptRows_giveLine_d26 : decode J_MScriptRows_giveLine.2.1 26 = .ok (.iconst 3, 1) := by decide +kernel
theorem J_MScriptRows_giveLine_d27 : decode J_MScriptRows_giveLine.2.1 27 = .ok (.iadd, 1) := by decide +kernel
theorem J_MScriptRows_giveLine_d28 : decode J_MScriptRows_giveLine.2.1 28 = .ok (.iaload, 1) := by decide +kernel
theorem J_MScriptRows_giveLine_d29 : decode J_MScriptRows_giveLine.2.1 29 = .ok (.ifCond .ne 7, 3) := by decide +kernel
theorem J_MScriptRows_giveLine_d32 : decode J_MScriptRows_giveLine.2.1 32 = .ok (.iconst 0, 1) := by decide +kernel
theorem J_MScriptRows_giveLine_d33 : decode J_MScriptRows_giveLine.2.1 33 = .ok (.goto 45, 3) := by decide +kernel
theorem J_MScriptRows_giveLine_d36 : decode J_MScriptRows_giveLine.2.1 36 = .ok (.aload_n 0, 1) := by decide +kernel
theorem J_MScriptRows_giveLine_d37 : decode J_MScriptRows_giveLine.2.1 37 = .ok (.getfield 44, 3) := by decide +kernel
theorem J_MScriptRows_giveLine_d40 : decode J_MScriptRows_giveLine.2.1 40 = .ok (.iload 5, 2) := by decide +kernel
theorem J_MScriptRows_giveLine_d42 : decode J_MScriptRows_giveLine.2.1 42 = .ok (.iconst 3, 1) := by decide +kernel
theorem J_MScriptRows_giveLine_d43 : decode J_MScriptRows_giveLine.2.1 43 = .ok (.iadd, 1) := by decide +kernel
theorem J_MScriptRows_giveLine_d44 : decode J_MScriptRows_giveLine.2.1 44 = .ok (.iaload, 1) := by decide +kernel
theorem J_MScriptRows_giveLine_d45 : decode J_MScriptRows_giveLine.2.1 45 = .ok (.iconst 1, 1) := by decide +kernel
theorem J_MScriptRows_giveLine_d46 : decode J_MScriptRows_giveLine.2.1 46 = .ok (.if_icmp .ne 18, 3) := by decide +kernel
theorem J_MScriptRows_giveLine_d49 : decode J_MScriptRows_giveLine.2.1 49 = .ok (.aload_n 0, 1) := by decide +kernel
theorem J_MScriptRows_giveLine_d50 : decode J_MScriptRows_giveLine.2.1 50 = .ok (.getfield 44, 3) := by decide +kernel
theorem J_MScriptRows_giveLine_d53 : decode J_MScriptRows_giveLine.2.1 53 = .ok (.iload 5, 2) := by decide +kernel
theorem J_MScriptRows_giveLine_d55 : decode J_MScriptRows_giveLine.2.1 55 = .ok (.iconst 4, 1) := by decide +kernel
theorem J_MScriptRows_giveLine_d56 : decode J_MScriptRows_giveLine.2.1 56 = .ok (.iadd, 1) := by decide +kernel
theorem J_MScriptRows_giveLine_d57 : decode J_MScriptRows_giveLine.2.1 57 = .ok (.iaload, 1) := by decide +kernel
theorem J_MScriptRows_giveLine_d58 : decode J_MScriptRows_giveLine.2.1 58 = .ok (.iload 6, 2) := by decide +kernel
theorem J_MScriptRows_giveLine_d60 : decode J_MScriptRows_giveLine.2.1 60 = .ok (.imul, 1) := by decide +kernel
theorem J_MScriptRows_giveLine_d61 : decode J_MScriptRows_giveLine.2.1 61 = .ok (.goto 17, 3) := by decide +kernel
theorem J_MScriptRows_giveLine_d64 : decode J_MScriptRows_giveLine.2.1 64 = .ok (.aload_n 0, 1) := by decide +kernel
theorem J_MScriptRows_giveLine_d65 : decode J_MScriptRows_giveLine.2.1 65 = .ok (.getfield 44, 3) := by decide +kernel
theorem J_MScriptRows_giveLine_d68 : decode J_MScriptRows_giveLine.2.1 68 = .ok (.iload 5, 2) := by decide +kernel
theorem J_MScriptRows_giveLine_d70 : decode J_MScriptRows_giveLine.2.1 70 = .ok (.iconst 4, 1) := by decide +kernel
theorem J_MScriptRows_giveLine_d71 : decode J_MScriptRows_giveLine.2.1 71 = .ok (.iadd, 1) := by decide +kernel
theorem J_MScriptRows_giveLine_d72 : decode J_MScriptRows_giveLine.2.1 72 = .ok (.iaload, 1) := by decide +kernel
theorem J_MScriptRows_giveLine_d73 : decode J_MScriptRows_giveLine.2.1 73 = .ok (.iload 6, 2) := by decide +kernel
theorem J_MScriptRows_giveLine_d75 : decode J_MScriptRows_giveLine.2.1 75 = .ok (.iconst 2, 1) := by decide +kernel
theorem J_MScriptRows_giveLine_d76 : decode J_MScriptRows_giveLine.2.1 76 = .ok (.idiv, 1) := by decide +kernel
theorem J_MScriptRows_giveLine_d77 : decode J_MScriptRows_giveLine.2.1 77 = .ok (.imul, 1) := by decide +kernel
theorem J_MScriptRows_giveLine_d78 : decode J_MScriptRows_giveLine.2.1 78 = .ok (.istore 7, 2) := by decide +kernel
theorem J_MScriptRows_giveLine_d80 : decode J_MScriptRows_giveLine.2.1 80 = .ok (.aload_n 0, 1) := by decide +kernel
theorem J_MScriptRows_giveLine_d81 : decode J_MScriptRows_giveLine.2.1 81 = .ok (.iload_n 1, 1) := by decide +kernel
theorem J_MScriptRows_giveLine_d82 : decode J_MScriptRows_giveLine.2.1 82 = .ok (.iconst 0, 1) := by decide +kernel
theorem J_MScriptRows_giveLine_d83 : decode J_MScriptRows_giveLine.2.1 83 = .ok (.aload_n 0, 1) := by decide +kernel
theorem J_MScriptRows_giveLine_d84 : decode J_MScriptRows_giveLine.2.1 84 = .ok (.getfield 44, 3) := by decide +kernel
theorem J_MScriptRows_giveLine_d87 : decode J_MScriptRows_giveLine.2.1 87 = .ok (.iload 5, 2) := by decide +kernel
theorem J_MScriptRows_giveLine_d89 : decode J_MScriptRows_giveLine.2.1 89 = .ok (.bipush 14, 2) := by decide +kernel
theorem J_MScriptRows_giveLine_d91 : decode J_MScriptRows_giveLine.2.1 91 = .ok (.iadd, 1) := by decide +kernel
theorem J_MScriptRows_giveLine_d92 : decode J_MScriptRows_giveLine.2.1 92 = .ok (.iaload, 1) := by decide +kernel
theorem J_MScriptRows_giveLine_d93 : decode J_MScriptRows_giveLine.2.1 93 = .ok (.iload 7, 2) := by decide +kernel
theorem J_MScriptRows_giveLine_d95 : decode J_MScriptRows_giveLine.2.1 95 = .ok (.iload_n 2, 1) := by decide +kernel
theorem J_MScriptRows_giveLine_d96 : decode J_MScriptRows_giveLine.2.1 96 = .ok (.aload_n 0, 1) := by decide +kernel
theorem J_MScriptRows_giveLine_d97 : decode J_MScriptRows_giveLine.2.1 97 = .ok (.getfield 44, 3) := by decide +kernel
theorem J_MScriptRows_giveLine_d100 : decode J_MScriptRows_giveLine.2.1 100 = .ok (.iload 5, 2) := by decide +kernel
theorem J_MScriptRows_giveLine_d102 : decode J_MScriptRows_giveLine.2.1 102 = .ok (.iconst 2, 1) := by decide +kernel
theorem J_MScriptRows_giveLine_d103 : decode J_MScriptRows_giveLine.2.1 103 = .ok (.iadd, 1) := by decide +kernel
theorem J_MScriptRows_giveLine_d104 : decode J_MScriptRows_giveLine.2.1 104 = .ok (.iaload, 1) := by decide +kernel
theorem J_MScriptRows_giveLine_d105 : decode J_MScriptRows_giveLine.2.1 105 = .ok (.imul, 1) := by decide +kernel
theorem J_MScriptRows_giveLine_d106 : decode J_MScriptRows_giveLine.2.1 106 = .ok (.iload_n 3, 1) := by decide +kernel
theorem J_MScriptRows_giveLine_d107 : decode J_MScriptRows_giveLine.2.1 107 = .ok (.iload 4, 2) := by decide +kernel
theorem J_MScriptRows_giveLine_d109 : decode J_MScriptRows_giveLine.2.1 109 = .ok (.invokevirtual 161, 3) := by decide +kernel
theorem J_MScriptRows_giveLine_d112 : decode J_MScriptRows_giveLine.2.1 112 = .ok (.aload_n 0, 1) := by decide +kernel
theorem J_MScriptRows_giveLine_d113 : decode J_MScriptRows_giveLine.2.1 113 = .ok (.aload_n 0, 1) := by decide +kernel
theorem J_MScriptRows_giveLine_d114 : decode J_MScriptRows_giveLine.2.1 114 = .ok (.getfield 44, 3) := by decide +kernel
theorem J_MScriptRows_giveLine_d117 : decode J_MScriptRows_giveLine.2.1 117 = .ok (.iload 5, 2) := by decide +kernel
theorem J_MScriptRows_giveLine_d119 : decode J_MScriptRows_giveLine.2.1 119 = .ok (.bipush 11, 2) := by decide +kernel
theorem J_MScriptRows_giveLine_d121 : decode J_MScriptRows_giveLine.2.1 121 = .ok (.iadd, 1) := by decide +kernel
theorem J_MScriptRows_giveLine_d122 : decode J_MScriptRows_giveLine.2.1 122 = .ok (.iaload, 1) := by decide +kernel
theorem J_MScriptRows_giveLine_d123 : decode J_MScriptRows_giveLine.2.1 123 = .ok (.aload_n 0, 1) := by decide +kernel
theorem J_MScriptRows_giveLine_d124 : decode J_MScriptRows_giveLine.2.1 124 = .ok (.getfield 44, 3) := by decide +kernel
theorem J_MScriptRows_giveLine_d127 : decode J_MScriptRows_giveLine.2.1 127 = .ok (.iload 5, 2) := by decide +kernel
theorem J_MScriptRows_giveLine_d129 : decode J_MScriptRows_giveLine.2.1 129 = .ok (.bipush 12, 2) := by decide +kernel
theorem J_MScriptRows_giveLine_d131 : decode J_MScriptRows_giveLine.2.1 131 = .ok (.iadd, 1) := by decide +kernel
theorem J_MScriptRows_giveLine_d132 : decode J_MScriptRows_giveLine.2.1 132 = .ok (.iaload, 1) := by decide +kernel
theorem J_MScriptRows_giveLine_d133 : decode J_MScriptRows_giveLine.2.1 133 = .ok (.aload_n 0, 1) := by decide +kernel
theorem J_MScriptRows_giveLine_d134 : decode J_MScriptRows_giveLine.2.1 134 = .ok (.getfield 44, 3) := by decide +kernel
theorem J_MScriptRows_giveLine_d137 : decode J_MScriptRows_giveLine.2.1 137 = .ok (.iload 5, 2) := by decide +kernel
theorem J_MScriptRows_giveLine_d139 : decode J_MScriptRows_giveLine.2.1 139 = .ok (.bipush 13, 2) := by decide +kernel
theorem J_MScriptRows_giveLine_d141 : decode J_MScriptRows_giveLine.2.1 141 = .ok (.iadd, 1) := by decide +kernel
theorem J_MScriptRows_giveLine_d142 : decode J_MScriptRows_giveLine.2.1 142 = .ok (.iaload, 1) := by decide +kernel
theorem J_MScriptRows_giveLine_d143 : decode J_MScriptRows_giveLine.2.1 143 = .ok (.invokevirtual 165, 3) := by decide +kernel
theorem J_MScriptRows_giveLine_d146 : decode J_MScriptRows_giveLine.2.1 146 = .ok (.return_, 1) := by decide +kernel
theorem f_MScriptRows_giveLine_ok {L : Nat} {xs : Nat → Int32} {dep : Nat} {w : Bool} {p0 : Int32} {p1 : Int32} {p2 : Int32} {p3 : Int32} {M : im_M} {Q : im_M → Prop} (hM : lw_S w M) (h : ed (f_MScriptRows_giveLine p0 p1 p2 p3 M) Q) : ia (tb_G L xs) (dep + 3) J_MScriptRows_giveLine (rwV w Q) (0, lv_args 0 [.ref 71, .int p0, .int p1, .int p2, .int p3], [], M) := by
  have hS : im_St (tb_G L xs) (dep + 3) J_MScriptRows_giveLine (ia (tb_G L xs) (dep + 3) J_MScriptRows_giveLine (rwV w Q)) := ia_St
  unfold f_MScriptRows_giveLine at h
  have l0 : im_lk (lv_args 0 [.ref 71, .int p0, .int p1, .int p2, .int p3]) 0 = some (.ref 71) := rfl
  have l1 : im_lk (lv_args 0 [.ref 71, .int p0, .int p1, .int p2, .int p3]) 1 = some (.int p0) := rfl
  have l2 : im_lk (lv_args 0 [.ref 71, .int p0, .int p1, .int p2, .int p3]) 2 = some (.int p1) := rfl
  have l3 : im_lk (lv_args 0 [.ref 71, .int p0, .int p1, .int p2, .int p3]) 3 = some (.int p2) := rfl
  have l4 : im_lk (lv_args 0 [.ref 71, .int p0, .int p1, .int p2, .int p3]) 4 = some (.int p3) := rfl
  refine iq_bipush hS 2 J_MScriptRows_giveLine_d0 (v := 16) (by decide +kernel) rfl ?_
  refine iq_iload_n hS 3 J_MScriptRows_giveLine_d2 l1 rfl ?_
  refine iq_imul hS 4 J_MScriptRows_giveLine_d3 rfl ?_
  refine iq_istore hS 6 J_MScriptRows_giveLine_d4 (by decide) rfl ?_
  refine iq_aload_n hS 7 J_MScriptRows_giveLine_d6 (lk_1r l0 (by decide)) rfl ?_
  refine iq_getR hS 10 J_MScriptRows_giveLine_d7 lf_15_44 (Or.inr ⟨_, rfl⟩) (ka_71 hM) (ra_71_28 hM) rfl ?_
  refine iq_iload hS 12 J_MScriptRows_giveLine_d10 lk_1s rfl ?_
  refine iq_iconst hS 13 J_MScriptRows_giveLine_d12 (v := 1) (by decide +kernel) rfl ?_
  refine iq_iadd hS 14 J_MScriptRows_giveLine_d13 rfl ?_
  obtain ⟨g14, h⟩ := ed_gd h
  refine iq_iaload hS 15 J_MScriptRows_giveLine_d14 ⟨(ka_82 hM).1, (ka_82 hM).2, g14.1, ix_lt (kl_82 hM) g14.2⟩ rfl ?_
  refine iq_iload hS 17 J_MScriptRows_giveLine_d15 (lk_1i l4 (by decide)) rfl ?_
  refine iq_isub hS 18 J_MScriptRows_giveLine_d17 rfl ?_
  refine iq_istore hS 20 J_MScriptRows_giveLine_d18 (by decide) rfl ?_
  refine iq_aload_n hS 21 J_MScriptRows_giveLine_d20 (lk_1r (lk_1r l0 (by decide)) (by decide)) rfl ?_
  refine iq_getR hS 24 J_MScriptRows_giveLine_d21 lf_15_44 (Or.inr ⟨_, rfl⟩) (ka_71 hM) (ra_71_28 hM) rfl ?_
  refine iq_iload hS 26 J_MScriptRows_giveLine_d24 (lk_1i lk_1s (by decide)) rfl ?_
  refine iq_iconst hS 27 J_MScriptRows_giveLine_d26 (v := 3) (by decide +kernel) rfl ?_
  refine iq_iadd hS 28 J_MScriptRows_giveLine_d27 rfl ?_
  obtain ⟨g28, h⟩ := ed_gd h
  refine iq_iaload hS 29 J_MScriptRows_giveLine_d28 ⟨(ka_82 hM).1, (ka_82 hM).2, g28.1, ix_lt (kl_82 hM) g28.2⟩ rfl ?_
  obtain ⟨Q1, hQ1, h⟩ := bd1_ed h
  have J1 : ∀ (y2 : Int32) (L' : List (Nat × Value)), im_lk L' 0 = some (.ref 71) → im_lk L' 1 = some (.int p0) → im_lk L' 2 = some (.int p1) → im_lk L' 3 = some (.int p2) → im_lk L' 4 = some (.int p3) → im_lk L' 5 = some (.int ((16 : Int32) * p0)) → Q1 y2 → ia (tb_G L xs) (dep + 3) J_MScriptRows_giveLine (rwV w Q) (78, L', [.int y2], M) := by
    intro y2 L' l3 l4 l5 l6 l7 l8 h
    replace h := hQ1 _ h
    refine iq_istore hS 80 J_MScriptRows_giveLine_d78 (by decide) rfl ?_
    refine iq_aload_n hS 81 J_MScriptRows_giveLine_d80 (lk_1r l3 (by decide)) rfl ?_
    refine iq_iload_n hS 82 J_MScriptRows_giveLine_d81 (lk_1i l4 (by decide)) rfl ?_
    refine iq_iconst hS 83 J_MScriptRows_giveLine_d82 (v := 0) (by decide +kernel) rfl ?_
    refine iq_aload_n hS 84 J_MScriptRows_giveLine_d83 (lk_1r l3 (by decide)) rfl ?_
    refine iq_getR hS 87 J_MScriptRows_giveLine_d84 lf_15_44 (Or.inr ⟨_, rfl⟩) (ka_71 hM) (ra_71_28 hM) rfl ?_
    refine iq_iload hS 89 J_MScriptRows_giveLine_d87 (lk_1i l8 (by decide)) rfl ?_
    refine iq_bipush hS 91 J_MScriptRows_giveLine_d89 (v := 14) (by decide +kernel) rfl ?_
    refine iq_iadd hS 92 J_MScriptRows_giveLine_d91 rfl ?_
    obtain ⟨g92, h⟩ := ed_gd h
    refine iq_iaload hS 93 J_MScriptRows_giveLine_d92 ⟨(ka_82 hM).1, (ka_82 hM).2, g92.1, ix_lt (kl_82 hM) g92.2⟩ rfl ?_
    refine iq_iload hS 95 J_MScriptRows_giveLine_d93 lk_1s rfl ?_
    refine iq_iload_n hS 96 J_MScriptRows_giveLine_d95 (lk_1i l5 (by decide)) rfl ?_
    refine iq_aload_n hS 97 J_MScriptRows_giveLine_d96 (lk_1r l3 (by decide)) rfl ?_
    refine iq_getR hS 100 J_MScriptRows_giveLine_d97 lf_15_44 (Or.inr ⟨_, rfl⟩) (ka_71 hM) (ra_71_28 hM) rfl ?_
    refine iq_iload hS 102 J_MScriptRows_giveLine_d100 (lk_1i l8 (by decide)) rfl ?_
    refine iq_iconst hS 103 J_MScriptRows_giveLine_d102 (v := 2) (by decide +kernel) rfl ?_
    refine iq_iadd hS 104 J_MScriptRows_giveLine_d103 rfl ?_
    obtain ⟨g104, h⟩ := ed_gd h
    refine iq_iaload hS 105 J_MScriptRows_giveLine_d104 ⟨(ka_82 hM).1, (ka_82 hM).2, g104.1, ix_lt (kl_82 hM) g104.2⟩ rfl ?_
    refine iq_imul hS 106 J_MScriptRows_giveLine_d105 rfl ?_
    refine iq_iload_n hS 107 J_MScriptRows_giveLine_d106 (lk_1i l6 (by decide)) rfl ?_
    refine iq_iload hS 109 J_MScriptRows_giveLine_d107 (lk_1i l7 (by decide)) rfl ?_
    obtain ⟨Q9, hQ9, h⟩ := bd1_ed h
    refine iq_cwV hS 112 J_MScriptRows_giveLine_d109 rfl (pr_inst (vs := [_, _, _, _, _, _, _]) lc_15_161 lT_296 rfl rfl (by decide) (by decide) rfl (Nat.le_of_ble_eq_true rfl) (Nat.le_of_ble_eq_true rfl) (fun _ => Or.inl (pr_b (ka_71 hM) (by decide) rfl))) (f_MScriptRows_give_ok (dep := dep + 0) hM h) rfl ?_
    intro M9 hM9 h
    replace h := hQ9 _ h
    refine iq_aload_n hS 113 J_MScriptRows_giveLine_d112 (lk_1r l3 (by decide)) rfl ?_
    refine iq_aload_n hS 114 J_MScriptRows_giveLine_d113 (lk_1r l3 (by decide)) rfl ?_
    refine iq_getR hS 117 J_MScriptRows_giveLine_d114 lf_15_44 (Or.inr ⟨_, rfl⟩) (ka_71 hM9) (ra_71_28 hM9) rfl ?_
    refine iq_iload hS 119 J_MScriptRows_giveLine_d117 (lk_1i l8 (by decide)) rfl ?_
    refine iq_bipush hS 121 J_MScriptRows_giveLine_d119 (v := 11) (by decide +kernel) rfl ?_
    refine iq_iadd hS 122 J_MScriptRows_giveLine_d121 rfl ?_
    obtain ⟨g122, h⟩ := ed_gd h
    refine iq_iaload hS 123 J_MScriptRows_giveLine_d122 ⟨(ka_82 hM9).1, (ka_82 hM9).2, g122.1, ix_lt (kl_82 hM9) g122.2⟩ rfl ?_
    refine iq_aload_n hS 124 J_MScriptRows_giveLine_d123 (lk_1r l3 (by decide)) rfl ?_
    refine iq_getR hS 127 J_MScriptRows_giveLine_d124 lf_15_44 (Or.inr ⟨_, rfl⟩) (ka_71 hM9) (ra_71_28 hM9) rfl ?_
    refine iq_iload hS 129 J_MScriptRows_giveLine_d127 (lk_1i l8 (by decide)) rfl ?_
    refine iq_bipush hS 131 J_MScriptRows_giveLine_d129 (v := 12) (by decide +kernel) rfl ?_
    refine iq_iadd hS 132 J_MScriptRows_giveLine_d131 rfl ?_
    obtain ⟨g132, h⟩ := ed_gd h
    refine iq_iaload hS 133 J_MScriptRows_giveLine_d132 ⟨(ka_82 hM9).1, (ka_82 hM9).2, g132.1, ix_lt (kl_82 hM9) g132.2⟩ rfl ?_
    refine iq_aload_n hS 134 J_MScriptRows_giveLine_d133 (lk_1r l3 (by decide)) rfl ?_
    refine iq_getR hS 137 J_MScriptRows_giveLine_d134 lf_15_44 (Or.inr ⟨_, rfl⟩) (ka_71 hM9) (ra_71_28 hM9) rfl ?_
    refine iq_iload hS 139 J_MScriptRows_giveLine_d137 (lk_1i l8 (by decide)) rfl ?_
    refine iq_bipush hS 141 J_MScriptRows_giveLine_d139 (v := 13) (by decide +kernel) rfl ?_
    refine iq_iadd hS 142 J_MScriptRows_giveLine_d141 rfl ?_
    obtain ⟨g142, h⟩ := ed_gd h
    refine iq_iaload hS 143 J_MScriptRows_giveLine_d142 ⟨(ka_82 hM9).1, (ka_82 hM9).2, g142.1, ix_lt (kl_82 hM9) g142.2⟩ rfl ?_
    obtain ⟨Q10, hQ10, h⟩ := bd1_ed h
    refine iq_cwV hS 146 J_MScriptRows_giveLine_d143 rfl (pr_inst (vs := [_, _, _]) lc_15_165 lT_300 rfl rfl (by decide) (by decide) rfl (Nat.le_of_ble_eq_true rfl) (Nat.le_of_ble_eq_true rfl) (fun _ => Or.inl (pr_b (ka_71 hM9) (by decide) rfl))) (f_MScriptRows_have_ok (dep := dep + 2) hM9 h) rfl ?_
    intro M10 hM10 h
    replace h := hQ10 _ h
    exact iq_ret J_MScriptRows_giveLine_d146 rfl ⟨rfl, hM10, ed_some h⟩
  refine iq_if_ne hS 32 J_MScriptRows_giveLine_d29 (t := 36) rfl (fun q29 => ?_) rfl (fun q29 => ?_)
  · replace h := ed_pos q29 h
    refine iq_aload_n hS 37 J_MScriptRows_giveLine_d36 (lk_1r (lk_1r l0 (by decide)) (by decide)) rfl ?_
    refine iq_getR hS 40 J_MScriptRows_giveLine_d37 lf_15_44 (Or.inr ⟨_, rfl⟩) (ka_71 hM) (ra_71_28 hM) rfl ?_
    refine iq_iload hS 42 J_MScriptRows_giveLine_d40 (lk_1i lk_1s (by decide)) rfl ?_
    refine iq_iconst hS 43 J_MScriptRows_giveLine_d42 (v := 3) (by decide +kernel) rfl ?_
    refine iq_iadd hS 44 J_MScriptRows_giveLine_d43 rfl ?_
    obtain ⟨g44, h⟩ := ed_gd h
    refine iq_iaload hS 45 J_MScriptRows_giveLine_d44 ⟨(ka_82 hM).1, (ka_82 hM).2, g44.1, ix_lt (kl_82 hM) g44.2⟩ rfl ?_
    refine iq_iconst hS 46 J_MScriptRows_giveLine_d45 (v := 1) (by decide +kernel) rfl ?_
    refine iq_icmp_ne hS 49 J_MScriptRows_giveLine_d46 (t := 64) rfl (fun q46 => ?_) rfl (fun q46 => ?_)
    · replace h := ed_pos q46 h
      refine iq_aload_n hS 65 J_MScriptRows_giveLine_d64 (lk_1r (lk_1r l0 (by decide)) (by decide)) rfl ?_
      refine iq_getR hS 68 J_MScriptRows_giveLine_d65 lf_15_44 (Or.inr ⟨_, rfl⟩) (ka_71 hM) (ra_71_28 hM) rfl ?_
      refine iq_iload hS 70 J_MScriptRows_giveLine_d68 (lk_1i lk_1s (by decide)) rfl ?_
      refine iq_iconst hS 71 J_MScriptRows_giveLine_d70 (v := 4) (by decide +kernel) rfl ?_
      refine iq_iadd hS 72 J_MScriptRows_giveLine_d71 rfl ?_
      obtain ⟨g72, h⟩ := ed_gd h
      refine iq_iaload hS 73 J_MScriptRows_giveLine_d72 ⟨(ka_82 hM).1, (ka_82 hM).2, g72.1, ix_lt (kl_82 hM) g72.2⟩ rfl ?_
      refine iq_iload hS 75 J_MScriptRows_giveLine_d73 lk_1s rfl ?_
      refine iq_iconst hS 76 J_MScriptRows_giveLine_d75 (v := 2) (by decide +kernel) rfl ?_
      refine iq_idiv hS 77 J_MScriptRows_giveLine_d76 (by decide) rfl ?_
      refine iq_imul hS 78 J_MScriptRows_giveLine_d77 rfl ?_
      exact J1 _ _ (lk_1r (lk_1r l0 (by decide)) (by decide)) (lk_1i (lk_1i l1 (by decide)) (by decide)) (lk_1i (lk_1i l2 (by decide)) (by decide)) (lk_1i (lk_1i l3 (by decide)) (by decide)) (lk_1i (lk_1i l4 (by decide)) (by decide)) (lk_1i lk_1s (by decide)) (ed_some h)
    · replace h := ed_neg q46 h
      refine iq_aload_n hS 50 J_MScriptRows_giveLine_d49 (lk_1r (lk_1r l0 (by decide)) (by decide)) rfl ?_
      refine iq_getR hS 53 J_MScriptRows_giveLine_d50 lf_15_44 (Or.inr ⟨_, rfl⟩) (ka_71 hM) (ra_71_28 hM) rfl ?_
      refine iq_iload hS 55 J_MScriptRows_giveLine_d53 (lk_1i lk_1s (by decide)) rfl ?_
      refine iq_iconst hS 56 J_MScriptRows_giveLine_d55 (v := 4) (by decide +kernel) rfl ?_
      refine iq_iadd hS 57 J_MScriptRows_giveLine_d56 rfl ?_
      obtain ⟨g57, h⟩ := ed_gd h
      refine iq_iaload hS 58 J_MScriptRows_giveLine_d57 ⟨(ka_82 hM).1, (ka_82 hM).2, g57.1, ix_lt (kl_82 hM) g57.2⟩ rfl ?_
      refine iq_iload hS 60 J_MScriptRows_giveLine_d58 lk_1s rfl ?_
      refine iq_imul hS 61 J_MScriptRows_giveLine_d60 rfl ?_
      refine iq_goto hS J_MScriptRows_giveLine_d61 (t := 78) rfl ?_
      exact J1 _ _ (lk_1r (lk_1r l0 (by decide)) (by decide)) (lk_1i (lk_1i l1 (by decide)) (by decide)) (lk_1i (lk_1i l2 (by decide)) (by decide)) (lk_1i (lk_1i l3 (by decide)) (by decide)) (lk_1i (lk_1i l4 (by decide)) (by decide)) (lk_1i lk_1s (by decide)) (ed_some h)
  · replace h := ed_neg q29 h
    refine iq_iconst hS 33 J_MScriptRows_giveLine_d32 (v := 0) (by decide +kernel) rfl ?_
    refine iq_goto hS J_MScriptRows_giveLine_d33 (t := 78) rfl ?_
    exact J1 _ _ (lk_1r (lk_1r l0 (by decide)) (by decide)) (lk_1i (lk_1i l1 (by decide)) (by decide)) (lk_1i (lk_1i l2 (by decide)) (by decide)) (lk_1i (lk_1i l3 (by decide)) (by decide)) (lk_1i (lk_1i l4 (by decide)) (by decide)) (lk_1i lk_1s (by decide)) (ed_some h)
noncomputable def f_MScriptRows_makeLines_L73 (v12 : Int32) (v13 : Int32) (v14 : Int32) (v15 : Int32) (v16 : Int32) (M18 : im_M) (x17 : Int32) : Option ((Int32) ⊕ (Int32)) := if x17 < v16 then some (.inr x17) else gd (inb x17 200) <| if (im_i M18 85 (Int32.toNatClampNeg x17)) = 32 then some (.inr x17) else some (.inl (x17 + (-1)))
noncomputable def f_MScriptRows_makeLines_L34 (v2 : Int32) (v3 : Int32) (v4 : Int32) (x5 : Int32) (x6 : Int32) (x7 : Int32) (M8 : im_M) : Option ((Int32 × Int32 × Int32 × im_M) ⊕ (im_M)) := if x7 = 0 then some (.inr M8) else bd1 (f_MScriptRows_pieceEnd x6 v3 M8) fun (x9 : Int32) => bd2 (if (x9 - x6) ≤ v4 then some (x9, (x9 + 1)) else bd1 (lp (uc1 (f_MScriptRows_makeLines_L73 v2 v3 v4 x5 x6 M8)) (x6 + v4)) fun (y19 : Int32) => if x6 ≤ y19 then some (y19, (y19 + 1)) else some ((x6 + v4), (x6 + v4))) fun (y20 : Int32) (y21 : Int32) => bd1 (f_MScriptRows_giveLine v2 x5 x6 (y20 - x6) M8) fun (M30 : im_M) => some (.inl ((x5 + 1), y21, ((if v3 < y21 then 0 else 1) : Int32), M30))
noncomputable def f_MScriptRows_makeLines (p0 : Int32) (M : im_M) : Option (im_M) := gd (inb (((16 : Int32) * p0) + 10) 2000) <| gd (inb (((16 : Int32) * p0) + 1) 2000) <| bd1 (lp (uc4 (f_MScriptRows_makeLines_L34 p0 (im_i M 82 (Int32.toNatClampNeg (((16 : Int32) * p0) + 10))) (im_i M 82 (Int32.toNatClampNeg (((16 : Int32) * p0) + 1))))) (0, 0, 1, M)) fun (M32 : im_M) => some M32
theorem J_MScriptRows_makeLines_d0 : decode J_MScriptRows_makeLines.2.1 0 = .ok (.aload_n 0, 1) := by decide +kernel
theorem J_MScriptRows_makeLines_d1 : decode J_MScriptRows_makeLines.2.1 1 = .ok (.getfield 44, 3) := by decide +kernel
theorem J_MScriptRows_makeLines_d4 : decode J_MScriptRows_makeLines.2.1 4 = .ok (.bipush 16, 2) := by decide +kernel
theorem J_MScriptRows_makeLines_d6 : decode J_MScriptRows_makeLines.2.1 6 = .ok (.iload_n 1, 1) := by decide +kernel
theorem J_MScriptRows_makeLines_d7 : decode J_MScriptRows_makeLines.2.1 7 = .ok (.imul, 1) := by decide +kernel
theorem J_MScriptRows_makeLines_d8 : decode J_MScriptRows_makeLines.2.1 8 = .ok (.bipush 10, 2) := by decide +kernel
theorem J_MScriptRows_makeLines_d10 : decode J_MScriptRows_makeLines.2.1 10 = .ok (.iadd, 1) := by decide +kernel
theorem J_MScriptRows_makeLines_d11 : decode J_MScriptRows_makeLines.2.1 11 = .ok (.iaload, 1) := by decide +kernel
theorem J_MScriptRows_makeLines_d12 : decode J_MScriptRows_makeLines.2.1 12 = .ok (.istore_n 2, 1) := by decide +kernel
theorem J_MScriptRows_makeLines_d13 : decode J_MScriptRows_makeLines.2.1 13 = .ok (.aload_n 0, 1) := by decide +kernel
theorem J_MScriptRows_makeLines_d14 : decode J_MScriptRows_makeLines.2.1 14 = .ok (.getfield 44, 3) := by decide +kernel
theorem J_MScriptRows_makeLines_d17 : decode J_MScriptRows_makeLines.2.1 17 = .ok (.bipush 16, 2) := by decide +kernel
theorem J_MScriptRows_makeLines_d19 : decode J_MScriptRows_makeLines.2.1 19 = .ok (.iload_n 1, 1) := by decide +kernel
theorem J_MScriptRows_makeLines_d20 : decode J_MScriptRows_makeLines.2.1 20 = .ok (.imul, 1) := by decide +kernel
theorem J_MScriptRows_makeLines_d21 : decode J_MScriptRows_makeLines.2.1 21 = .ok (.iconst 1, 1) := by decide +kernel
theorem J_MScriptRows_makeLines_d22 : decode J_MScriptRows_makeLines.2.1 22 = .ok (.iadd, 1) := by decide +kernel
theorem J_MScriptRows_makeLines_d23 : decode J_MScriptRows_makeLines.2.1 23 = .ok (.iaload, 1) := by decide +kernel
theorem J_MScriptRows_makeLines_d24 : decode J_MScriptRows_makeLines.2.1 24 = .ok (.istore_n 3, 1) := by decide +kernel
theorem J_MScriptRows_makeLines_d25 : decode J_MScriptRows_makeLines.2.1 25 = .ok (.iconst 0, 1) := by decide +kernel
theorem J_MScriptRows_makeLines_d26 : decode J_MScriptRows_makeLines.2.1 26 = .ok (.istore 4, 2) := by decide +kernel
theorem J_MScriptRows_makeLines_d28 : decode J_MScriptRows_makeLines.2.1 28 = .ok (.iconst 0, 1) := by decide +kernel
theorem J_MScriptRows_makeLines_d29 : decode J_MScriptRows_makeLines.2.1 29 = .ok (.istore 5, 2) := by decide +kernel
theorem J_MScriptRows_makeLines_d31 : decode J_MScriptRows_makeLines.2.1 31 = .ok (.iconst 1, 1) := by decide +kernel
theorem J_MScriptRows_makeLines_d32 : decode J_MScriptRows_makeLines.2.1 32 = .ok (.istore 6, 2) := by decide +kernel
theorem J_MScriptRows_makeLines_d34 : decode J_MScriptRows_makeLines.2.1 34 = .ok (.iload 6, 2) := by decide +kernel
theorem J_MScriptRows_makeLines_d36 : decode J_MScriptRows_makeLines.2.1 36 = .ok (.ifCond .eq 122, 3) := by decide +kernel
theorem J_MScriptRows_makeLines_d39 : decode J_MScriptRows_makeLines.2.1 39 = .ok (.aload_n 0, 1) := by decide +kernel
theorem J_MScriptRows_makeLines_d40 : decode J_MScriptRows_makeLines.2.1 40 = .ok (.iload 5, 2) := by decide +kernel
theorem J_MScriptRows_makeLines_d42 : decode J_MScriptRows_makeLines.2.1 42 = .ok (.iload_n 2, 1) := by decide +kernel
theorem J_MScriptRows_makeLines_d43 : decode J_MScriptRows_makeLines.2.1 43 = .ok (.invokevirtual 173, 3) := by decide +kernel
theorem J_MScriptRows_makeLines_d46 : decode J_MScriptRows_makeLines.2.1 46 = .ok (.istore 7, 2) := by decide +kernel
theorem J_MScriptRows_makeLines_d48 : decode J_MScriptRows_makeLines.2.1 48 = .ok (.iload 7, 2) := by decide +kernel
theorem J_MScriptRows_makeLines_d50 : decode J_MScriptRows_makeLines.2.1 50 = .ok (.istore 8, 2) := by decide +kernel
theorem J_MScriptRows_makeLines_d52 : decode J_MScriptRows_makeLines.2.1 52 = .ok (.iload 7, 2) := by decide +kernel
theorem J_MScriptRows_makeLines_d54 : decode J_MScriptRows_makeLines.2.1 54 = .ok (.iconst 1, 1) := by decide +kernel
theorem J_MScriptRows_makeLines_d55 : decode J_MScriptRows_makeLines.2.1 55 = .ok (.iadd, 1) := by decide +kernel
theorem J_MScriptRows_makeLines_d56 : decode J_MScriptRows_makeLines.2.1 56 = .ok (.istore 9, 2) := by decide +kernel
theorem J_MScriptRows_makeLines_d58 : decode J_MScriptRows_makeLines.2.1 58 = .ok (.iload 7, 2) := by decide +kernel
theorem J_MScriptRows_makeLines_d60 : decode J_MScriptRows_makeLines.2.1 60 = .ok (.iload 5, 2) := by decide +kernel
theorem J_MScriptRows_makeLines_d62 : decode J_MScriptRows_makeLines.2.1 62 = .ok (.isub, 1) := by decide +kernel
theorem J_MScriptRows_makeLines_d63 : decode J_MScriptRows_makeLines.2.1 63 = .ok (.iload_n 3, 1) := by decide +kernel
theorem J_MScriptRows_makeLines_d64 : decode J_MScriptRows_makeLines.2.1 64 = .ok (.if_icmp .le 57, 3) := by decide +kernel
theorem J_MScriptRows_makeLines_d67 : decode J_MScriptRows_makeLines.2.1 67 = .ok (.iload 5, 2) := by decide +kernel
theorem J_MScriptRows_makeLines_d69 : decode J_MScriptRows_makeLines.2.1 69 = .ok (.iload_n 3, 1) := by decide +kernel
theorem J_MScriptRows_makeLines_d70 : decode J_MScriptRows_makeLines.2.1 70 = .ok (.iadd, 1) := by decide +kernel
theorem J_MScriptRows_makeLines_d71 : decode J_MScriptRows_makeLines.2.1 71 = .ok (.istore 8, 2) := by decide +kernel
theorem J_MScriptRows_makeLines_d73 : decode J_MScriptRows_makeLines.2.1 73 = .ok (.iload 8, 2) := by decide +kernel
theorem J_MScriptRows_makeLines_d75 : decode J_MScriptRows_makeLines.2.1 75 = .ok (.iload 5, 2) := by decide +kernel
theorem J_MScriptRows_makeLines_d77 : decode J_MScriptRows_makeLines.2.1 77 = .ok (.if_icmp .lt 21, 3) := by decide +kernel
theorem J_MScriptRows_makeLines_d80 : decode J_MScriptRows_makeLines.2.1 80 = .ok (.aload_n 0, 1) := by decide +kernel
theorem J_MScriptRows_makeLines_d81 : decode J_MScriptRows_makeLines.2.1 81 = .ok (.getfield 53, 3) := by decide +kernel
theorem J_MScriptRows_makeLines_d84 : decode J_MScriptRows_makeLines.2.1 84 = .ok (.iload 8, 2) := by decide +kernel
theorem J_MScriptRows_makeLines_d86 : decode J_MScriptRows_makeLines.2.1 86 = .ok (.iaload, 1) := by decide +kernel
theorem J_MScriptRows_makeLines_d87 : decode J_MScriptRows_makeLines.2.1 87 = .ok (.bipush 32, 2) := by decide +kernel
theorem J_MScriptRows_makeLines_d89 : decode J_MScriptRows_makeLines.2.1 89 = .ok (.if_icmp .eq 9, 3) := by decide +kernel
theorem J_MScriptRows_makeLines_d92 : decode J_MScriptRows_makeLines.2.1 92 = .ok (.iinc 8 (-1), 3) := by decide +kernel
theorem J_MScriptRows_makeLines_d95 : decode J_MScriptRows_makeLines.2.1 95 = .ok (.goto (-22), 3) := by decide +kernel
theorem J_MScriptRows_makeLines_d98 : decode J_MScriptRows_makeLines.2.1 98 = .ok (.iload 8, 2) := by decide +kernel
theorem J_MScriptRows_makeLines_d100 : decode J_MScriptRows_makeLines.2.1 100 = .ok (.iconst 1, 1) := by decide +kernel
theorem J_MScriptRows_makeLines_d101 : decode J_MScriptRows_makeLines.2.1 101 = .ok (.iadd, 1) := by decide +kernel
theorem J_MScriptRows_makeLines_d102 : decode J_MScriptRows_makeLines.2.1 102 = .ok (.istore 9, 2) := by decide +kernel
theorem J_MScriptRows_makeLines_d104 : decode J_MScriptRows_makeLines.2.1 104 = .ok (.iload 8, 2) := by decide +kernel
theorem J_MScriptRows_makeLines_d106 : decode J_MScriptRows_makeLines.2.1 106 = .ok (.iload 5, 2) := by decide +kernel
theorem J_MScriptRows_makeLines_d108 : decode J_MScriptRows_makeLines.2.1 108 = .ok (.if_icmp .ge 13, 3) := by decide +kernel
theorem J_MScriptRows_makeLines_d111 : decode J_MScriptRows_makeLines.2.1 111 = .ok (.iload 5, 2) := by decide +kernel
theorem J_MScriptRows_makeLines_d113 : decode J_MScriptRows_makeLines.2.1 113 = .ok (.iload_n 3, 1) := by decide +kernel
theorem J_MScriptRows_makeLines_d114 : decode J_MScriptRows_makeLines.2.1 114 = .ok (.iadd, 1) := by decide +kernel
theorem J_MScriptRows_makeLines_d115 : decode J_MScriptRows_makeLines.2.1 115 = .ok (.istore 8, 2) := by decide +kernel
theorem J_MScriptRows_makeLines_d117 : decode J_MScriptRows_makeLines.2.1 117 = .ok (.iload 8, 2) := by decide +kernel
theorem J_MScriptRows_makeLines_d119 : decode J_MScriptRows_makeLines.2.1 119 = .ok (.istore 9, 2) := by decide +kernel
theorem J_MScriptRows_makeLines_d121 : decode J_MScriptRows_makeLines.2.1 121 = .ok (.aload_n 0, 1) := by decide +kernel
theorem J_MScriptRows_makeLines_d122 : decode J_MScriptRows_makeLines.2.1 122 = .ok (.iload_n 1, 1) := by decide +kernel
theorem J_MScriptRows_makeLines_d123 : decode J_MScriptRows_makeLines.2.1 123 = .ok (.iload 4, 2) := by decide +kernel
theorem J_MScriptRows_makeLines_d125 : decode J_MScriptRows_makeLines.2.1 125 = .ok (.iload 5, 2) := by decide +kernel
theorem J_MScriptRows_makeLines_d127 : decode J_MScriptRows_makeLines.2.1 127 = .ok (.iload 8, 2) := by decide +kernel
theorem J_MScriptRows_makeLines_d129 : decode J_MScriptRows_makeLines.2.1 129 = .ok (.iload 5, 2) := by decide +kernel
theorem J_MScriptRows_makeLines_d131 : decode J_MScriptRows_makeLines.2.1 131 = .ok (.isub, 1) := by decide +kernel
theorem J_MScriptRows_makeLines_d132 : decode J_MScriptRows_makeLines.2.1 132 = .ok (.invokevirtual 176, 3) := by decide +kernel
theorem J_MScriptRows_makeLines_d135 : decode J_MScriptRows_makeLines.2.1 135 = .ok (.iinc 4 1, 3) := by decide +kernel
theorem J_MScriptRows_makeLines_d138 : decode J_MScriptRows_makeLines.2.1 138 = .ok (.iload 9, 2) := by decide +kernel
theorem J_MScriptRows_makeLines_d140 : decode J_MScriptRows_makeLines.2.1 140 = .ok (.iload_n 2, 1) := by decide +kernel
theorem J_MScriptRows_makeLines_d141 : decode J_MScriptRows_makeLines.2.1 141 = .ok (.if_icmp .gt 7, 3) := by decide +kernel
theorem J_MScriptRows_makeLines_d144 : decode J_MScriptRows_makeLines.2.1 144 = .ok (.iconst 1, 1) := by decide +kernel
theorem J_MScriptRows_makeLines_d145 : decode J_MScriptRows_makeLines.2.1 145 = .ok (.goto 4, 3) := by decide +kernel
theorem J_MScriptRows_makeLines_d148 : decode J_MScriptRows_makeLines.2.1 148 = .ok (.iconst 0, 1) := by decide +kernel
theorem J_MScriptRows_makeLines_d149 : decode J_MScriptRows_makeLines.2.1 149 = .ok (.istore 6, 2) := by decide +kernel
theorem J_MScriptRows_makeLines_d151 : decode J_MScriptRows_makeLines.2.1 151 = .ok (.iload 9, 2) := by decide +kernel
theorem J_MScriptRows_makeLines_d153 : decode J_MScriptRows_makeLines.2.1 153 = .ok (.istore 5, 2) := by decide +kernel
theorem J_MScriptRows_makeLines_d155 : decode J_MScriptRows_makeLines.2.1 155 = .ok (.goto (-121), 3) := by decide +kernel
theorem J_MScriptRows_makeLines_d158 : decode J_MScriptRows_makeLines.2.1 158 = .ok (.return_, 1) := by decide +kernel
theorem f_MScriptRows_makeLines_ok {L : Nat} {xs : Nat → Int32} {dep : Nat} {w : Bool} {p0 : Int32} {M : im_M} {Q : im_M → Prop} (hM : lw_S w M) (h : ed (f_MScriptRows_makeLines p0 M) Q) : ia (tb_G L xs) (dep + 4) J_MScriptRows_makeLines (rwV w Q) (0, lv_args 0 [.ref 71, .int p0], [], M) := by
  have hS : im_St (tb_G L xs) (dep + 4) J_MScriptRows_makeLines (ia (tb_G L xs) (dep + 4) J_MScriptRows_makeLines (rwV w Q)) := ia_St
  unfold f_MScriptRows_makeLines at h
  have l0 : im_lk (lv_args 0 [.ref 71, .int p0]) 0 = some (.ref 71) := rfl
  have l1 : im_lk (lv_args 0 [.ref 71, .int p0]) 1 = some (.int p0) := rfl
  refine iq_aload_n hS 1 J_MScriptRows_makeLines_d0 l0 rfl ?_
  refine iq_getR hS 4 J_MScriptRows_makeLines_d1 lf_15_44 (Or.inr ⟨_, rfl⟩) (ka_71 hM) (ra_71_28 hM) rfl ?_
  refine iq_bipush hS 6 J_MScriptRows_makeLines_d4 (v := 16) (by decide +kernel) rfl ?_
  refine iq_iload_n hS 7 J_MScriptRows_makeLines_d6 l1 rfl ?_
  refine iq_imul hS 8 J_MScriptRows_makeLines_d7 rfl ?_
  refine iq_bipush hS 10 J_MScriptRows_makeLines_d8 (v := 10) (by decide +kernel) rfl ?_
  refine iq_iadd hS 11 J_MScriptRows_makeLines_d10 rfl ?_
  obtain ⟨g11, h⟩ := ed_gd h
  refine iq_iaload hS 12 J_MScriptRows_makeLines_d11 ⟨(ka_82 hM).1, (ka_82 hM).2, g11.1, ix_lt (kl_82 hM) g11.2⟩ rfl ?_
  refine iq_istore_n hS 13 J_MScriptRows_makeLines_d12 (by decide) rfl ?_
  refine iq_aload_n hS 14 J_MScriptRows_makeLines_d13 (lk_1r l0 (by decide)) rfl ?_
  refine iq_getR hS 17 J_MScriptRows_makeLines_d14 lf_15_44 (Or.inr ⟨_, rfl⟩) (ka_71 hM) (ra_71_28 hM) rfl ?_
  refine iq_bipush hS 19 J_MScriptRows_makeLines_d17 (v := 16) (by decide +kernel) rfl ?_
  refine iq_iload_n hS 20 J_MScriptRows_makeLines_d19 (lk_1i l1 (by decide)) rfl ?_
  refine iq_imul hS 21 J_MScriptRows_makeLines_d20 rfl ?_
  refine iq_iconst hS 22 J_MScriptRows_makeLines_d21 (v := 1) (by decide +kernel) rfl ?_
  refine iq_iadd hS 23 J_MScriptRows_makeLines_d22 rfl ?_
  obtain ⟨g23, h⟩ := ed_gd h
  refine iq_iaload hS 24 J_MScriptRows_makeLines_d23 ⟨(ka_82 hM).1, (ka_82 hM).2, g23.1, ix_lt (kl_82 hM) g23.2⟩ rfl ?_
  refine iq_istore_n hS 25 J_MScriptRows_makeLines_d24 (by decide) rfl ?_
  refine iq_iconst hS 26 J_MScriptRows_makeLines_d25 (v := 0) (by decide +kernel) rfl ?_
  refine iq_istore hS 28 J_MScriptRows_makeLines_d26 (by decide) rfl ?_
  refine iq_iconst hS 29 J_MScriptRows_makeLines_d28 (v := 0) (by decide +kernel) rfl ?_
  refine iq_istore hS 31 J_MScriptRows_makeLines_d29 (by decide) rfl ?_
  refine iq_iconst hS 32 J_MScriptRows_makeLines_d31 (v := 1) (by decide +kernel) rfl ?_
  refine iq_istore hS 34 J_MScriptRows_makeLines_d32 (by decide) rfl ?_
  obtain ⟨Q1, hQ1, h⟩ := bd1_ed h
  have K1 : ∀ (M2 : im_M) (L' : List (Nat × Value)), lw_S w M2 → Q1 M2 → ia (tb_G L xs) (dep + 4) J_MScriptRows_makeLines (rwV w Q) (158, L', [], M2) := by
    intro M2 L' hM2  h
    replace h := hQ1 _ h
    exact iq_ret J_MScriptRows_makeLines_d158 rfl ⟨rfl, hM2, ed_some h⟩
  obtain ⟨r1, hr1, hq1⟩ := h
  obtain ⟨n1, hn1⟩ := lp_n hr1
  have I1 : ∀ (n : Nat) (x3 : Int32) (x4 : Int32) (x5 : Int32) (M6 : im_M) (L' : List (Nat × Value)), lw_S w M6 → im_lk L' 0 = some (.ref 71) → im_lk L' 1 = some (.int p0) → im_lk L' 2 = some (.int (im_i M 82 (Int32.toNatClampNeg (((16 : Int32) * p0) + 10)))) → im_lk L' 3 = some (.int (im_i M 82 (Int32.toNatClampNeg (((16 : Int32) * p0) + 1)))) → im_lk L' 4 = some (.int x3) → im_lk L' 5 = some (.int x4) → im_lk L' 6 = some (.int x5) → lpn (uc4 (f_MScriptRows_makeLines_L34 p0 (im_i M 82 (Int32.toNatClampNeg (((16 : Int32) * p0) + 10))) (im_i M 82 (Int32.toNatClampNeg (((16 : Int32) * p0) + 1))))) n (x3, x4, x5, M6) = some r1 → ia (tb_G L xs) (dep + 4) J_MScriptRows_makeLines (rwV w Q) (34, L', [], M6) := by
    intro n
    induction n with
    | zero => intro x3 x4 x5 M6 L' hM6 l7 l8 l9 l10 l11 l12 l13 hn; exact (lpn_0 hn).elim
    | succ n ih =>
      intro x3 x4 x5 M6 L' hM6 l7 l8 l9 l10 l11 l12 l13 hn
      have h := lpn_ed4 hn
      unfold f_MScriptRows_makeLines_L34 at h
      refine iq_iload hS 36 J_MScriptRows_makeLines_d34 l13 rfl ?_
      refine iq_if_eq hS 39 J_MScriptRows_makeLines_d36 (t := 158) rfl (fun q36 => ?_) rfl (fun q36 => ?_)
      · replace h := ed_pos q36 h
        exact K1 _ _ hM6  (lq_r h hq1)
      · replace h := ed_neg q36 h
        refine iq_aload_n hS 40 J_MScriptRows_makeLines_d39 l7 rfl ?_
        refine iq_iload hS 42 J_MScriptRows_makeLines_d40 l12 rfl ?_
        refine iq_iload_n hS 43 J_MScriptRows_makeLines_d42 l9 rfl ?_
        obtain ⟨Q14, hQ14, h⟩ := bd1_ed h
        refine iq_cpI hS 46 J_MScriptRows_makeLines_d43 rfl (pr_inst (vs := [_, _]) lc_15_173 lT_302 rfl rfl (by decide) (by decide) rfl (Nat.le_of_ble_eq_true rfl) (Nat.le_of_ble_eq_true rfl) (fun _ => Or.inl (pr_b (ka_71 hM6) (by decide) rfl))) (f_MScriptRows_pieceEnd_ok (dep := dep + 3) hM6 h) rfl ?_
        intro x14 h
        replace h := hQ14 _ h
        refine iq_istore hS 48 J_MScriptRows_makeLines_d46 (by decide) rfl ?_
        refine iq_iload hS 50 J_MScriptRows_makeLines_d48 lk_1s rfl ?_
        refine iq_istore hS 52 J_MScriptRows_makeLines_d50 (by decide) rfl ?_
        refine iq_iload hS 54 J_MScriptRows_makeLines_d52 (lk_1i lk_1s (by decide)) rfl ?_
        refine iq_iconst hS 55 J_MScriptRows_makeLines_d54 (v := 1) (by decide +kernel) rfl ?_
        refine iq_iadd hS 56 J_MScriptRows_makeLines_d55 rfl ?_
        refine iq_istore hS 58 J_MScriptRows_makeLines_d56 (by decide) rfl ?_
        refine iq_iload hS 60 J_MScriptRows_makeLines_d58 (lk_1i (lk_1i lk_1s (by decide)) (by decide)) rfl ?_
        refine iq_iload hS 62 J_MScriptRows_makeLines_d60 (lk_1i (lk_1i (lk_1i l12 (by decide)) (by decide)) (by decide)) rfl ?_
        refine iq_isub hS 63 J_MScriptRows_makeLines_d62 rfl ?_
        refine iq_iload_n hS 64 J_MScriptRows_makeLines_d63 (lk_1i (lk_1i (lk_1i l10 (by decide)) (by decide)) (by decide)) rfl ?_
        obtain ⟨Q15, hQ15, h⟩ := bd2_ed h
        have J15 : ∀ (y33 : Int32) (y34 : Int32) (L' : List (Nat × Value)), im_lk L' 0 = some (.ref 71) → im_lk L' 1 = some (.int p0) → im_lk L' 2 = some (.int (im_i M 82 (Int32.toNatClampNeg (((16 : Int32) * p0) + 10)))) → im_lk L' 3 = some (.int (im_i M 82 (Int32.toNatClampNeg (((16 : Int32) * p0) + 1)))) → im_lk L' 4 = some (.int x3) → im_lk L' 5 = some (.int x4) → im_lk L' 8 = some (.int y33) → im_lk L' 9 = some (.int y34) → Q15 (y33, y34) → ia (tb_G L xs) (dep + 4) J_MScriptRows_makeLines (rwV w Q) (121, L', [], M6) := by
          intro y33 y34 L' l35 l36 l37 l38 l39 l40 l41 l42 h
          replace h := hQ15 _ _ h
          refine iq_aload_n hS 122 J_MScriptRows_makeLines_d121 l35 rfl ?_
          refine iq_iload_n hS 123 J_MScriptRows_makeLines_d122 l36 rfl ?_
          refine iq_iload hS 125 J_MScriptRows_makeLines_d123 l39 rfl ?_
          refine iq_iload hS 127 J_MScriptRows_makeLines_d125 l40 rfl ?_
          refine iq_iload hS 129 J_MScriptRows_makeLines_d127 l41 rfl ?_
          refine iq_iload hS 131 J_MScriptRows_makeLines_d129 l40 rfl ?_
          refine iq_isub hS 132 J_MScriptRows_makeLines_d131 rfl ?_
          obtain ⟨Q43, hQ43, h⟩ := bd1_ed h
          refine iq_cwV hS 135 J_MScriptRows_makeLines_d132 rfl (pr_inst (vs := [_, _, _, _]) lc_15_176 lT_303 rfl rfl (by decide) (by decide) rfl (Nat.le_of_ble_eq_true rfl) (Nat.le_of_ble_eq_true rfl) (fun _ => Or.inl (pr_b (ka_71 hM6) (by decide) rfl))) (f_MScriptRows_giveLine_ok (dep := dep + 0) hM6 h) rfl ?_
          intro M43 hM43 h
          replace h := hQ43 _ h
          refine iq_iincv hS 138 J_MScriptRows_makeLines_d135 (c := 1) (by decide +kernel) l39 (by decide) rfl ?_
          refine iq_iload hS 140 J_MScriptRows_makeLines_d138 (lk_1i l42 (by decide)) rfl ?_
          refine iq_iload_n hS 141 J_MScriptRows_makeLines_d140 (lk_1i l37 (by decide)) rfl ?_
          have J44 : ∀ (z45 : Int32) (L' : List (Nat × Value)), z45 = ((if (im_i M 82 (Int32.toNatClampNeg (((16 : Int32) * p0) + 10))) < y34 then 0 else 1) : Int32) → im_lk L' 0 = some (.ref 71) → im_lk L' 1 = some (.int p0) → im_lk L' 2 = some (.int (im_i M 82 (Int32.toNatClampNeg (((16 : Int32) * p0) + 10)))) → im_lk L' 3 = some (.int (im_i M 82 (Int32.toNatClampNeg (((16 : Int32) * p0) + 1)))) → im_lk L' 4 = some (.int (x3 + 1)) → im_lk L' 9 = some (.int y34) → ia (tb_G L xs) (dep + 4) J_MScriptRows_makeLines (rwV w Q) (149, L', [.int z45], M43) := by
            intro z45 L' e46 l47 l48 l49 l50 l51 l52
            subst e46
            refine iq_istore hS 151 J_MScriptRows_makeLines_d149 (by decide) rfl ?_
            refine iq_iload hS 153 J_MScriptRows_makeLines_d151 (lk_1i l52 (by decide)) rfl ?_
            refine iq_istore hS 155 J_MScriptRows_makeLines_d153 (by decide) rfl ?_
            refine iq_goto hS J_MScriptRows_makeLines_d155 (t := 34) rfl ?_
            exact ih _ _ _ _ _ hM43 (lk_1r (lk_1r l47 (by decide)) (by decide)) (lk_1i (lk_1i l48 (by decide)) (by decide)) (lk_1i (lk_1i l49 (by decide)) (by decide)) (lk_1i (lk_1i l50 (by decide)) (by decide)) (lk_1i (lk_1i l51 (by decide)) (by decide)) lk_1s (lk_1i lk_1s (by decide)) (lq_l h)
          refine iq_icmp_gt hS 144 J_MScriptRows_makeLines_d141 (t := 148) rfl (fun q141 => ?_) rfl (fun q141 => ?_)
          · refine iq_iconst hS 149 J_MScriptRows_makeLines_d148 (v := 0) (by decide +kernel) rfl ?_
            exact J44 _ _ (by rw [if_pos q141]) (lk_1r l35 (by decide)) (lk_1i l36 (by decide)) (lk_1i l37 (by decide)) (lk_1i l38 (by decide)) lk_1s (lk_1i l42 (by decide))
          · refine iq_iconst hS 145 J_MScriptRows_makeLines_d144 (v := 1) (by decide +kernel) rfl ?_
            refine iq_goto hS J_MScriptRows_makeLines_d145 (t := 149) rfl ?_
            exact J44 _ _ (by rw [if_neg q141]) (lk_1r l35 (by decide)) (lk_1i l36 (by decide)) (lk_1i l37 (by decide)) (lk_1i l38 (by decide)) lk_1s (lk_1i l42 (by decide))
        refine iq_icmp_le hS 67 J_MScriptRows_makeLines_d64 (t := 121) rfl (fun q64 => ?_) rfl (fun q64 => ?_)
        · replace h := ed_pos q64 h
          exact J15 _ _ _ (lk_1r (lk_1r (lk_1r l7 (by decide)) (by decide)) (by decide)) (lk_1i (lk_1i (lk_1i l8 (by decide)) (by decide)) (by decide)) (lk_1i (lk_1i (lk_1i l9 (by decide)) (by decide)) (by decide)) (lk_1i (lk_1i (lk_1i l10 (by decide)) (by decide)) (by decide)) (lk_1i (lk_1i (lk_1i l11 (by decide)) (by decide)) (by decide)) (lk_1i (lk_1i (lk_1i l12 (by decide)) (by decide)) (by decide)) (lk_1i lk_1s (by decide)) lk_1s (ed_some h)
        · replace h := ed_neg q64 h
          refine iq_iload hS 69 J_MScriptRows_makeLines_d67 (lk_1i (lk_1i (lk_1i l12 (by decide)) (by decide)) (by decide)) rfl ?_
          refine iq_iload_n hS 70 J_MScriptRows_makeLines_d69 (lk_1i (lk_1i (lk_1i l10 (by decide)) (by decide)) (by decide)) rfl ?_
          refine iq_iadd hS 71 J_MScriptRows_makeLines_d70 rfl ?_
          refine iq_istore hS 73 J_MScriptRows_makeLines_d71 (by decide) rfl ?_
          obtain ⟨Q16, hQ16, h⟩ := bd1_ed h
          have K16 : ∀ (y17 : Int32) (L' : List (Nat × Value)), im_lk L' 0 = some (.ref 71) → im_lk L' 1 = some (.int p0) → im_lk L' 2 = some (.int (im_i M 82 (Int32.toNatClampNeg (((16 : Int32) * p0) + 10)))) → im_lk L' 3 = some (.int (im_i M 82 (Int32.toNatClampNeg (((16 : Int32) * p0) + 1)))) → im_lk L' 4 = some (.int x3) → im_lk L' 5 = some (.int x4) → im_lk L' 8 = some (.int y17) → Q16 y17 → ia (tb_G L xs) (dep + 4) J_MScriptRows_makeLines (rwV w Q) (98, L', [], M6) := by
            intro y17 L' l18 l19 l20 l21 l22 l23 l24 h
            replace h := hQ16 _ h
            refine iq_iload hS 100 J_MScriptRows_makeLines_d98 l24 rfl ?_
            refine iq_iconst hS 101 J_MScriptRows_makeLines_d100 (v := 1) (by decide +kernel) rfl ?_
            refine iq_iadd hS 102 J_MScriptRows_makeLines_d101 rfl ?_
            refine iq_istore hS 104 J_MScriptRows_makeLines_d102 (by decide) rfl ?_
            refine iq_iload hS 106 J_MScriptRows_makeLines_d104 (lk_1i l24 (by decide)) rfl ?_
            refine iq_iload hS 108 J_MScriptRows_makeLines_d106 (lk_1i l23 (by decide)) rfl ?_
            refine iq_icmp_ge hS 111 J_MScriptRows_makeLines_d108 (t := 121) rfl (fun q108 => ?_) rfl (fun q108 => ?_)
            · replace h := ed_pos q108 h
              exact J15 _ _ _ (lk_1r l18 (by decide)) (lk_1i l19 (by decide)) (lk_1i l20 (by decide)) (lk_1i l21 (by decide)) (lk_1i l22 (by decide)) (lk_1i l23 (by decide)) (lk_1i l24 (by decide)) lk_1s (ed_some h)
            · replace h := ed_neg q108 h
              refine iq_iload hS 113 J_MScriptRows_makeLines_d111 (lk_1i l23 (by decide)) rfl ?_
              refine iq_iload_n hS 114 J_MScriptRows_makeLines_d113 (lk_1i l21 (by decide)) rfl ?_
              refine iq_iadd hS 115 J_MScriptRows_makeLines_d114 rfl ?_
              refine iq_istore hS 117 J_MScriptRows_makeLines_d115 (by decide) rfl ?_
              refine iq_iload hS 119 J_MScriptRows_makeLines_d117 lk_1s rfl ?_
              refine iq_istore hS 121 J_MScriptRows_makeLines_d119 (by decide) rfl ?_
              exact J15 _ _ _ (lk_1r (lk_1r (lk_1r l18 (by decide)) (by decide)) (by decide)) (lk_1i (lk_1i (lk_1i l19 (by decide)) (by decide)) (by decide)) (lk_1i (lk_1i (lk_1i l20 (by decide)) (by decide)) (by decide)) (lk_1i (lk_1i (lk_1i l21 (by decide)) (by decide)) (by decide)) (lk_1i (lk_1i (lk_1i l22 (by decide)) (by decide)) (by decide)) (lk_1i (lk_1i (lk_1i l23 (by decide)) (by decide)) (by decide)) (lk_1i lk_1s (by decide)) lk_1s (ed_some h)
          obtain ⟨r16, hr16, hq16⟩ := h
          obtain ⟨n16, hn16⟩ := lp_n hr16
          have I16 : ∀ (n : Nat) (x25 : Int32) (L' : List (Nat × Value)), im_lk L' 0 = some (.ref 71) → im_lk L' 1 = some (.int p0) → im_lk L' 2 = some (.int (im_i M 82 (Int32.toNatClampNeg (((16 : Int32) * p0) + 10)))) → im_lk L' 3 = some (.int (im_i M 82 (Int32.toNatClampNeg (((16 : Int32) * p0) + 1)))) → im_lk L' 4 = some (.int x3) → im_lk L' 5 = some (.int x4) → im_lk L' 8 = some (.int x25) → lpn (uc1 (f_MScriptRows_makeLines_L73 p0 (im_i M 82 (Int32.toNatClampNeg (((16 : Int32) * p0) + 10))) (im_i M 82 (Int32.toNatClampNeg (((16 : Int32) * p0) + 1))) x3 x4 M6)) n x25 = some r16 → ia (tb_G L xs) (dep + 4) J_MScriptRows_makeLines (rwV w Q) (73, L', [], M6) := by
            intro n
            induction n with
            | zero => intro x25 L' l26 l27 l28 l29 l30 l31 l32 hn; exact (lpn_0 hn).elim
            | succ n ih =>
              intro x25 L' l26 l27 l28 l29 l30 l31 l32 hn
              have h := lpn_ed1 hn
              unfold f_MScriptRows_makeLines_L73 at h
              refine iq_iload hS 75 J_MScriptRows_makeLines_d73 l32 rfl ?_
              refine iq_iload hS 77 J_MScriptRows_makeLines_d75 l31 rfl ?_
              refine iq_icmp_lt hS 80 J_MScriptRows_makeLines_d77 (t := 98) rfl (fun q77 => ?_) rfl (fun q77 => ?_)
              · replace h := ed_pos q77 h
                exact K16 _ _ l26 l27 l28 l29 l30 l31 l32 (lq_r h hq16)
              · replace h := ed_neg q77 h
                refine iq_aload_n hS 81 J_MScriptRows_makeLines_d80 l26 rfl ?_
                refine iq_getR hS 84 J_MScriptRows_makeLines_d81 lf_15_53 (Or.inr ⟨_, rfl⟩) (ka_71 hM6) (ra_71_31 hM6) rfl ?_
                refine iq_iload hS 86 J_MScriptRows_makeLines_d84 l32 rfl ?_
                obtain ⟨g86, h⟩ := ed_gd h
                refine iq_iaload hS 87 J_MScriptRows_makeLines_d86 ⟨(ka_85 hM6).1, (ka_85 hM6).2, g86.1, ix_lt (kl_85 hM6) g86.2⟩ rfl ?_
                refine iq_bipush hS 89 J_MScriptRows_makeLines_d87 (v := 32) (by decide +kernel) rfl ?_
                refine iq_icmp_eq hS 92 J_MScriptRows_makeLines_d89 (t := 98) rfl (fun q89 => ?_) rfl (fun q89 => ?_)
                · replace h := ed_pos q89 h
                  exact K16 _ _ l26 l27 l28 l29 l30 l31 l32 (lq_r h hq16)
                · replace h := ed_neg q89 h
                  refine iq_iincv hS 95 J_MScriptRows_makeLines_d92 (c := (-1)) (by decide +kernel) l32 (by decide) rfl ?_
                  refine iq_goto hS J_MScriptRows_makeLines_d95 (t := 73) rfl ?_
                  exact ih _ _ (lk_1r l26 (by decide)) (lk_1i l27 (by decide)) (lk_1i l28 (by decide)) (lk_1i l29 (by decide)) (lk_1i l30 (by decide)) (lk_1i l31 (by decide)) lk_1s (lq_l h)
          exact I16 n16 _ _ (lk_1r (lk_1r (lk_1r (lk_1r l7 (by decide)) (by decide)) (by decide)) (by decide)) (lk_1i (lk_1i (lk_1i (lk_1i l8 (by decide)) (by decide)) (by decide)) (by decide)) (lk_1i (lk_1i (lk_1i (lk_1i l9 (by decide)) (by decide)) (by decide)) (by decide)) (lk_1i (lk_1i (lk_1i (lk_1i l10 (by decide)) (by decide)) (by decide)) (by decide)) (lk_1i (lk_1i (lk_1i (lk_1i l11 (by decide)) (by decide)) (by decide)) (by decide)) (lk_1i (lk_1i (lk_1i (lk_1i l12 (by decide)) (by decide)) (by decide)) (by decide)) lk_1s hn16
  exact I1 n1 _ _ _ _ _ hM (lk_1r (lk_1r (lk_1r (lk_1r (lk_1r l0 (by decide)) (by decide)) (by decide)) (by decide)) (by decide)) (lk_1i (lk_1i (lk_1i (lk_1i (lk_1i l1 (by decide)) (by decide)) (by decide)) (by decide)) (by decide)) (lk_1i (lk_1i (lk_1i (lk_1i lk_1s (by decide)) (by decide)) (by decide)) (by decide)) (lk_1i (lk_1i (lk_1i lk_1s (by decide)) (by decide)) (by decide)) (lk_1i (lk_1i lk_1s (by decide)) (by decide)) (lk_1i lk_1s (by decide)) lk_1s hn1
noncomputable def f_MScriptRows_makeField (p0 : Int32) (p1 : Int32) (M : im_M) : Option (im_M) := gd (inb (((16 : Int32) * p0) + 1) 2000) <| gd (inb (((16 : Int32) * p0) + 2) 2000) <| gd (inb (((16 : Int32) * p0) + 10) 2000) <| bd1 (f_MScriptRows_takeCopy p0 p1 M) fun (M1 : im_M) => gd (inb ((16 : Int32) * p0) 2000) <| if (im_i M1 82 (Int32.toNatClampNeg ((16 : Int32) * p0))) = 0 then gd (inb (((16 : Int32) * p0) + 4) 2000) <| bd1 (f_MScriptRows_give p0 0 (im_i M1 82 (Int32.toNatClampNeg (((16 : Int32) * p0) + 4))) 0 0 0 (im_i M 82 (Int32.toNatClampNeg (((16 : Int32) * p0) + 10))) M1) fun (M2 : im_M) => gd (inb (((16 : Int32) * p0) + 3) 2000) <| bd1 (f_MScriptRows_have (im_i M 82 (Int32.toNatClampNeg (((16 : Int32) * p0) + 1))) (im_i M 82 (Int32.toNatClampNeg (((16 : Int32) * p0) + 2))) (im_i M2 82 (Int32.toNatClampNeg (((16 : Int32) * p0) + 3))) M2) fun (M3 : im_M) => some M3 else if (im_i M1 82 (Int32.toNatClampNeg ((16 : Int32) * p0))) = 1 then gd (inb (((16 : Int32) * p0) + 3) 2000) <| bd1 (f_MScriptRows_give p0 1 (im_i M1 82 (Int32.toNatClampNeg (((16 : Int32) * p0) + 3))) 0 0 0 (im_i M 82 (Int32.toNatClampNeg (((16 : Int32) * p0) + 10))) M1) fun (M4 : im_M) => bd1 (f_MScriptRows_have (im_i M 82 (Int32.toNatClampNeg (((16 : Int32) * p0) + 1))) (im_i M 82 (Int32.toNatClampNeg (((16 : Int32) * p0) + 2))) 0 M4) fun (M5 : im_M) => gd (inb (((16 : Int32) * p0) + 4) 2000) <| if ¬ (im_i M5 82 (Int32.toNatClampNeg (((16 : Int32) * p0) + 4))) = 1 then some M5 else gd (inb (((16 : Int32) * p0) + 3) 2000) <| bd1 (f_MScriptRows_give p0 0 (im_i M5 82 (Int32.toNatClampNeg (((16 : Int32) * p0) + 3))) 0 ((im_i M 82 (Int32.toNatClampNeg (((16 : Int32) * p0) + 2))) + 3) 0 (im_i M 82 (Int32.toNatClampNeg (((16 : Int32) * p0) + 10))) M5) fun (M6 : im_M) => gd (inb (((16 : Int32) * p0) + 11) 2000) <| gd (inb (((16 : Int32) * p0) + 12) 2000) <| gd (inb (((16 : Int32) * p0) + 13) 2000) <| bd1 (f_MScriptRows_have (im_i M6 82 (Int32.toNatClampNeg (((16 : Int32) * p0) + 11))) (im_i M6 82 (Int32.toNatClampNeg (((16 : Int32) * p0) + 12))) (im_i M6 82 (Int32.toNatClampNeg (((16 : Int32) * p0) + 13))) M6) fun (M7 : im_M) => some M7 else if (im_i M1 82 (Int32.toNatClampNeg ((16 : Int32) * p0))) = 2 then gd (inb (((16 : Int32) * p0) + 3) 2000) <| bd1 (f_MScriptRows_give p0 2 (im_i M1 82 (Int32.toNatClampNeg (((16 : Int32) * p0) + 3))) 0 0 0 (im_i M 82 (Int32.toNatClampNeg (((16 : Int32) * p0) + 10))) M1) fun (M8 : im_M) => bd1 (f_MScriptRows_have (im_i M 82 (Int32.toNatClampNeg (((16 : Int32) * p0) + 1))) (im_i M 82 (Int32.toNatClampNeg (((16 : Int32) * p0) + 2))) 0 M8) fun (M9 : im_M) => some M9 else if (im_i M1 82 (Int32.toNatClampNeg ((16 : Int32) * p0))) = 3 then gd (inb (((16 : Int32) * p0) + 4) 2000) <| bd1 (f_MScriptRows_give p0 3 (im_i M1 82 (Int32.toNatClampNeg (((16 : Int32) * p0) + 4))) 0 0 0 (im_i M 82 (Int32.toNatClampNeg (((16 : Int32) * p0) + 10))) M1) fun (M10 : im_M) => gd (inb (((16 : Int32) * p0) + 3) 2000) <| bd1 (f_MScriptRows_have (im_i M 82 (Int32.toNatClampNeg (((16 : Int32) * p0) + 1))) (im_i M 82 (Int32.toNatClampNeg (((16 : Int32) * p0) + 2))) (im_i M10 82 (Int32.toNatClampNeg (((16 : Int32) * p0) + 3))) M10) fun (M11 : im_M) => some M11 else if (im_i M1 82 (Int32.toNatClampNeg ((16 : Int32) * p0))) = 7 then bd1 (f_MScriptRows_give p0 7 0 0 0 0 ((im_i M 82 (Int32.toNatClampNeg (((16 : Int32) * p0) + 10))) / 2) M1) fun (M12 : im_M) => bd1 (f_MScriptRows_have (im_i M 82 (Int32.toNatClampNeg (((16 : Int32) * p0) + 1))) 0 0 M12) fun (M13 : im_M) => some M13 else if (im_i M1 82 (Int32.toNatClampNeg ((16 : Int32) * p0))) = 8 then bd1 (f_MScriptRows_makeLines p0 M1) fun (M14 : im_M) => some M14 else gd (inb ((16 : Int32) * p0) 2000) <| bd1 (f_MScriptRows_give p0 (im_i M1 82 (Int32.toNatClampNeg ((16 : Int32) * p0))) 0 0 0 0 0 M1) fun (M15 : im_M) => gd (inb (((16 : Int32) * p0) + 3) 2000) <| bd1 (f_MScriptRows_have (im_i M 82 (Int32.toNatClampNeg (((16 : Int32) * p0) + 1))) (im_i M 82 (Int32.toNatClampNeg (((16 : Int32) * p0) + 2))) (im_i M15 82 (Int32.toNatClampNeg (((16 : Int32) * p0) + 3))) M15) fun (M16 : im_M) => bd1 (jn0 (fun (_ : Unit) => some 1) fun k18 => if ¬ (im_i M16 71 32) = 0 then k18 () else gd (inb ((16 : Int32) * p0) 2000) <| jn0 (fun (_ : Unit) => some 0) fun k19 => if ¬ (im_i M16 82 (Int32.toNatClampNeg ((16 : Int32) * p0))) = 6 then k19 () else gd (inb (((16 : Int32) * p0) + 5) 2000) <| bd1 (f_MScriptRows_isFar ((im_i M16 82 (Int32.toNatClampNeg (((16 : Int32) * p0) + 5))) + (im_i M 82 (Int32.toNatClampNeg (((16 : Int32) * p0) + 1)))) M16) fun (x20 : Int32) => if ¬ x20 = 0 then k18 () else gd (inb (((16 : Int32) * p0) + 6) 2000) <| bd1 (f_MScriptRows_isFar ((im_i M16 82 (Int32.toNatClampNeg (((16 : Int32) * p0) + 6))) + (im_i M 82 (Int32.toNatClampNeg (((16 : Int32) * p0) + 2)))) M16) fun (x21 : Int32) => if x21 = 0 then k19 () else k18 ()) fun (y22 : Int32) => gd (y22 = 0 ∨ y22 = 1) <| some (im_setI M16 71 32 y22)
theorem J_MScriptRows_makeField_d0 : decode J_MScriptRows_makeField.2.1 0 = .ok (.bipush 16, 2) := by decide +kernel
theorem J_MScriptRows_makeField_d2 : decode J_MScriptRows_makeField.2.1 2 = .ok (.iload_n 1, 1) := by decide +kernel
theorem J_MScriptRows_makeField_d3 : decode J_MScriptRows_makeField.2.1 3 = .ok (.imul, 1) := by decide +kernel
theorem J_MScriptRows_makeField_d4 : decode J_MScriptRows_makeField.2.1 4 = .ok (.istore_n 3, 1) := by decide +kernel
theorem J_MScriptRows_makeField_d5 : decode J_MScriptRows_makeField.2.1 5 = .ok (.aload_n 0, 1) := by decide +kernel
theorem J_MScriptRows_makeField_d6 : decode J_MScriptRows_makeField.2.1 6 = .ok (.getfield 44, 3) := by decide +kernel
theorem J_MScriptRows_makeField_d9 : decode J_MScriptRows_makeField.2.1 9 = .ok (.iload_n 3, 1) := by decide +kernel
theorem J_MScriptRows_makeField_d10 : decode J_MScriptRows_makeField.2.1 10 = .ok (.iconst 1, 1) := by decide +kernel
theorem J_MScriptRows_makeField_d11 : decode J_MScriptRows_makeField.2.1 11 = .ok (.iadd, 1) := by decide +kernel
theorem J_MScriptRows_makeField_d12 : decode J_MScriptRows_makeField.2.1 12 = .ok (.iaload, 1) := by decide +kernel
theorem J_MScriptRows_makeField_d13 : decode J_MScriptRows_makeField.2.1 13 = .ok (.istore 4, 2) := by decide +kernel
theorem J_MScriptRows_makeField_d15 : decode J_MScriptRows_makeField.2.1 15 = .ok (.aload_n 0, 1) := by decide +kernel
theorem J_MScriptRows_makeField_d16 : decode J_MScriptRows_makeField.2.1 16 = .ok (.getfield 44, 3) := by decide +kernel
theorem J_MScriptRows_makeField_d19 : decode J_MScriptRows_makeField.2.1 19 = .ok (.iload_n 3, 1) := by decide +kernel
theorem J_MScriptRows_makeField_d20 : decode J_MScriptRows_makeField.2.1 20 = .ok (.iconst 2, 1) := by decide +kernel
theorem J_MScriptRows_makeField_d21 : decode J_MScriptRows_makeField.2.1 21 = .ok (.iadd, 1) := by decide +kernel
theorem J_MScriptRows_makeField_d22 : decode J_MScriptRows_makeField.2.1 22 = .ok (.iaload, 1) := by decide +kernel
theorem J_MScriptRows_makeField_d23 : decode J_MScriptRows_makeField.2.1 23 = .ok (.istore 5, 2) := by decide +kernel
theorem J_MScriptRows_makeField_d25 : decode J_MScriptRows_makeField.2.1 25 = .ok (.aload_n 0, 1) := by decide +kernel
theorem J_MScriptRows_makeField_d26 : decode J_MScriptRows_makeField.2.1 26 = .ok (.getfield 44, 3) := by decide +kernel
theorem J_MScriptRows_makeField_d29 : decode J_MScriptRows_makeField.2.1 29 = .ok (.iload_n 3, 1) := by decide +kernel
theorem J_MScriptRows_makeField_d30 : decode J_MScriptRows_makeField.2.1 30 = .ok (.bipush 10, 2) := by decide +kernel
theorem J_MScriptRows_makeField_d32 : decode J_MScriptRows_makeField.2.1 32 = .ok (.iadd, 1) := by decide +kernel
theorem J_MScriptRows_makeField_d33 : decode J_MScriptRows_makeField.2.1 33 = .ok (.iaload, 1) := by decide +kernel
theorem J_MScriptRows_makeField_d34 : decode J_MScriptRows_makeField.2.1 34 = .ok (.istore 6, 2) := by decide +kernel
theorem J_MScriptRows_makeField_d36 : decode J_MScriptRows_makeField.2.1 36 = .ok (.aload_n 0, 1) := by decide +kernel
theorem J_MScriptRows_makeField_d37 : decode J_MScriptRows_makeField.2.1 37 = .ok (.iload_n 1, 1) := by decide +kernel
theorem J_MScriptRows_makeField_d38 : decode J_MScriptRows_makeField.2.1 38 = .ok (.iload_n 2, 1) := by decide +kernel
theorem J_MScriptRows_makeField_d39 : decode J_MScriptRows_makeField.2.1 39 = .ok (.invokevirtual 158, 3) := by decide +kernel
theorem J_MScriptRows_makeField_d42 : decode J_MScriptRows_makeField.2.1 42 = .ok (.aload_n 0, 1) := by decide +kernel
theorem J_MScriptRows_makeField_d43 : decode J_MScriptRows_makeField.2.1 43 = .ok (.getfield 44, 3) := by decide +kernel
theorem J_MScriptRows_makeField_d46 : decode J_MScriptRows_makeField.2.1 46 = .ok (.iload_n 3, 1) := by decide +kernel
theorem J_MScriptRows_makeField_d47 : decode J_MScriptRows_makeField.2.1 47 = .ok (.iaload, 1) := by decide +kernel
theorem J_MScriptRows_makeField_d48 : decode J_MScriptRows_makeField.2.1 48 = .ok (.tableswitch 289 0 8 #[52, 90, 186, 217, 289, 289, 289, 255, 281], 52) := by decide +kernel
theorem J_MScriptRows_makeField_d100 : decode J_MScriptRows_makeField.2.1 100 = .ok (.aload_n 0, 1) := by decide +kernel
theorem J_MScriptRows_makeField_d101 : decode J_MScriptRows_makeField.2.1 101 = .ok (.iload_n 1, 1) := by decide +kernel
theorem J_MScriptRows_makeField_d102 : decode J_MScriptRows_makeField.2.1 102 = .ok (.iconst 0, 1) := by decide +kernel
theorem J_MScriptRows_makeField_d103 : decode J_MScriptRows_makeField.2.1 103 = .ok (.aload_n 0, 1) := by decide +kernel
theorem J_MScriptRows_makeField_d104 : decode J_MScriptRows_makeField.2.1 104 = .ok (.getfield 44, 3) := by decide +kernel
theorem J_MScriptRows_makeField_d107 : decode J_MScriptRows_makeField.2.1 107 = .ok (.iload_n 3, 1) := by decide +kernel
theorem J_MScriptRows_makeField_d108 : decode J_MScriptRows_makeField.2.1 108 = .ok (.iconst 4, 1) := by decide +kernel
theorem J_MScriptRows_makeField_d109 : decode J_MScriptRows_makeField.2.1 109 = .ok (.iadd, 1) := by decide +kernel
theorem J_MScriptRows_makeField_d110 : decode J_MScriptRows_makeField.2.1 110 = .ok (.iaload, 1) := by decide +kernel
theorem J_MScriptRows_makeField_d111 : decode J_MScriptRows_makeField.2.1 111 = .ok (.iconst 0, 1) := by decide +kernel
theorem J_MScriptRows_makeField_d112 : decode J_MScriptRows_makeField.2.1 112 = .ok (.iconst 0, 1) := by decide +kernel
theorem J_MScriptRows_makeField_d113 : decode J_MScriptRows_makeField.2.1 113 = .ok (.iconst 0, 1) := by decide +kernel
theorem J_MScriptRows_makeField_d114 : decode J_MScriptRows_makeField.2.1 114 = .ok (.iload 6, 2) := by decide +kernel
theorem J_MScriptRows_makeField_d116 : decode J_MScriptRows_makeField.2.1 116 = .ok (.invokevirtual 161, 3) := by decide +kernel
theorem J_MScriptRows_makeField_d119 : decode J_MScriptRows_makeField.2.1 119 = .ok (.aload_n 0, 1) := by decide +kernel
theorem J_MScriptRows_makeField_d120 : decode J_MScriptRows_makeField.2.1 120 = .ok (.iload 4, 2) := by decide +kernel
theorem J_MScriptRows_makeField_d122 : decode J_MScriptRows_makeField.2.1 122 = .ok (.iload 5, 2) := by decide +kernel
theorem J_MScriptRows_makeField_d124 : decode J_MScriptRows_makeField.2.1 124 = .ok (.aload_n 0, 1) := by decide +kernel
theorem J_MScriptRows_makeField_d125 : decode J_MScriptRows_makeField.2.1 125 = .ok (.getfield 44, 3) := by decide +kernel
theorem J_MScriptRows_makeField_d128 : decode J_MScriptRows_makeField.2.1 128 = .ok (.iload_n 3, 1) := by decide +kernel
theorem J_MScriptRows_makeField_d129 : decode J_MScriptRows_makeField.2.1 129 = .ok (.iconst 3, 1) := by decide +kernel
theorem J_MScriptRows_makeField_d130 : decode J_MScriptRows_makeField.2.1 130 = .ok (.iadd, 1) := by decide +kernel
theorem J_MScriptRows_makeField_d131 : decode J_MScriptRows_makeField.2.1 131 = .ok (.iaload, 1) := by decide +kernel
theorem J_MScriptRows_makeField_d132 : decode J_MScriptRows_makeField.2.1 132 = .ok (.invokevirtual 165, 3) := by decide +kernel
theorem J_MScriptRows_makeField_d135 : decode J_MScriptRows_makeField.2.1 135 = .ok (.goto 296, 3) := by decide +kernel
theorem J_MScriptRows_makeField_d138 : decode J_MScriptRows_makeField.2.1 138 = .ok (.aload_n 0, 1) := by decide +kernel
theorem J_MScriptRows_makeField_d139 : decode J_MScriptRows_makeField.2.1 139 = .ok (.iload_n 1, 1) := by decide +kernel
theorem J_MScriptRows_makeField_d140 : decode J_MScriptRows_makeField.2.1 140 = .ok (.iconst 1, 1) := by decide +kernel
theorem J_MScriptRows_makeField_d141 : decode J_MScriptRows_makeField.2.1 141 = .ok (.aload_n 0, 1) := by decide +kernel
theorem J_MScriptRows_makeField_d142 : decode J_MScriptRows_makeField.2.1 142 = .ok (.getfield 44, 3) := by decide +kernel
theorem J_MScriptRows_makeField_d145 : decode J_MScriptRows_makeField.2.1 145 = .ok (.iload_n 3, 1) := by decide +kernel
theorem J_MScriptRows_makeField_d146 : decode J_MScriptRows_makeField.2.1 146 = .ok (.iconst 3, 1) := by decide +kernel
theorem J_MScriptRows_makeField_d147 : decode J_MScriptRows_makeField.2.1 147 = .ok (.iadd, 1) := by decide +kernel
theorem J_MScriptRows_makeField_d148 : decode J_MScriptRows_makeField.2.1 148 = .ok (.iaload, 1) := by decide +kernel
theorem J_MScriptRows_makeField_d149 : decode J_MScriptRows_makeField.2.1 149 = .ok (.iconst 0, 1) := by decide +kernel
theorem J_MScriptRows_makeField_d150 : decode J_MScriptRows_makeField.2.1 150 = .ok (.iconst 0, 1) := by decide +kernel
theorem J_MScriptRows_makeField_d151 : decode J_MScriptRows_makeField.2.1 151 = .ok (.iconst 0, 1) := by decide +kernel
theorem J_MScriptRows_makeField_d152 : decode J_MScriptRows_makeField.2.1 152 = .ok (.iload 6, 2) := by decide +kernel
theorem J_MScriptRows_makeField_d154 : decode J_MScriptRows_makeField.2.1 154 = .ok (.invokevirtual 161, 3) := by decide +kernel
theorem J_MScriptRows_makeField_d157 : decode J_MScriptRows_makeField.2.1 157 = .ok (.aload_n 0, 1) := by decide +kernel
theorem J_MScriptRows_makeField_d158 : decode J_MScriptRows_makeField.2.1 158 = .ok (.iload 4, 2) := by decide +kernel
theorem J_MScriptRows_makeField_d160 : decode J_MScriptRows_makeField.2.1 160 = .ok (.iload 5, 2) := by decide +kernel
theorem J_MScriptRows_makeField_d162 : decode J_MScriptRows_makeField.2.1 162 = .ok (.iconst 0, 1) := by decide +kernel
theorem J_MScriptRows_makeField_d163 : decode J_MScriptRows_makeField.2.1 163 = .ok (.invokevirtual 165, 3) := by decide +kernel
theorem J_MScriptRows_makeField_d166 : decode J_MScriptRows_makeField.2.1 166 = .ok (.aload_n 0, 1) := by decide +kernel
theorem J_MScriptRows_makeField_d167 : decode J_MScriptRows_makeField.2.1 167 = .ok (.getfield 44, 3) := by decide +kernel
theorem J_MScriptRows_makeField_d170 : decode J_MScriptRows_makeField.2.1 170 = .ok (.iload_n 3, 1) := by decide +kernel
theorem J_MScriptRows_makeField_d171 : decode J_MScriptRows_makeField.2.1 171 = .ok (.iconst 4, 1) := by decide +kernel
theorem J_MScriptRows_makeField_d172 : decode J_MScriptRows_makeField.2.1 172 = .ok (.iadd, 1) := by decide +kernel
theorem J_MScriptRows_makeField_d173 : decode J_MScriptRows_makeField.2.1 173 = .ok (.iaload, 1) := by decide +kernel
theorem J_MScriptRows_makeField_d174 : decode J_MScriptRows_makeField.2.1 174 = .ok (.iconst 1, 1) := by decide +kernel
theorem J_MScriptRows_makeField_d175 : decode J_MScriptRows_makeField.2.1 175 = .ok (.if_icmp .ne 256, 3) := by decide +kernel
theorem J_MScriptRows_makeField_d178 : decode J_MScriptRows_makeField.2.1 178 = .ok (.aload_n 0, 1) := by decide +kernel
theorem J_MScriptRows_makeField_d179 : decode J_MScriptRows_makeField.2.1 179 = .ok (.iload_n 1, 1) := by decide +kernel
theorem J_MScriptRows_makeField_d180 : decode J_MScriptRows_makeField.2.1 180 = .ok (.iconst 0, 1) := by decide +kernel
theorem J_MScriptRows_makeField_d181 : decode J_MScriptRows_makeField.2.1 181 = .ok (.aload_n 0, 1) := by decide +kernel
theorem J_MScriptRows_makeField_d182 : decode J_MScriptRows_makeField.2.1 182 = .ok (.getfield 44, 3) := by decide +kernel
theorem J_MScriptRows_makeField_d185 : decode J_MScriptRows_makeField.2.1 185 = .ok (.iload_n 3, 1) := by decide +kernel
theorem J_MScriptRows_makeField_d186 : decode J_MScriptRows_makeField.2.1 186 = .ok (.iconst 3, 1) := by decide +kernel
theorem J_MScriptRows_makeField_d187 : decode J_MScriptRows_makeField.2.1 187 = .ok (.iadd, 1) := by decide +kernel
theorem J_MScriptRows_makeField_d188 : decode J_MScriptRows_makeField.2.1 188 = .ok (.iaload, 1) := by decide +kernel
theorem J_MScriptRows_makeField_d189 : decode J_MScriptRows_makeField.2.1 189 = .ok (.iconst 0, 1) := by decide +kernel
theorem J_MScriptRows_makeField_d190 : decode J_MScriptRows_makeField.2.1 190 = .ok (.iload 5, 2) := by decide +kernel
theorem J_MScriptRows_makeField_d192 : decode J_MScriptRows_makeField.2.1 192 = .ok (.iconst 3, 1) := by decide +kernel
theorem J_MScriptRows_makeField_d193 : decode J_MScriptRows_makeField.2.1 193 = .ok (.iadd, 1) := by decide +kernel
theorem J_MScriptRows_makeField_d194 : decode J_MScriptRows_makeField.2.1 194 = .ok (.iconst 0, 1) := by decide +kernel
theorem J_MScriptRows_makeField_d195 : decode J_MScriptRows_makeField.2.1 195 = .ok (.iload 6, 2) := by decide +kernel
theorem J_MScriptRows_makeField_d197 : decode J_MScriptRows_makeField.2.1 197 = .ok (.invokevirtual 161, 3) := by decide +kernel
theorem J_MScriptRows_makeField_d200 : decode J_MScriptRows_makeField.2.1 200 = .ok (.aload_n 0, 1) := by decide +kernel
theorem J_MScriptRows_makeField_d201 : decode J_MScriptRows_makeField.2.1 201 = .ok (.aload_n 0, 1) := by decide +kernel
theorem J_MScriptRows_makeField_d202 : decode J_MScriptRows_makeField.2.1 202 = .ok (.getfield 44, 3) := by decide +kernel
theorem J_MScriptRows_makeField_d205 : decode J_MScriptRows_makeField.2.1 205 = .ok (.iload_n 3, 1) := by decide +kernel
theorem J_MScriptRows_makeField_d206 : decode J_MScriptRows_makeField.2.1 206 = .ok (.bipush 11, 2) := by decide +kernel
theorem J_MScriptRows_makeField_d208 : decode J_MScriptRows_makeField.2.1 208 = .ok (.iadd, 1) := by decide +kernel
theorem J_MScriptRows_makeField_d209 : decode J_MScriptRows_makeField.2.1 209 = .ok (.iaload, 1) := by decide +kernel
theorem J_MScriptRows_makeField_d210 : decode J_MScriptRows_makeField.2.1 210 = .ok (.aload_n 0, 1) := by decide +kernel
theorem J_MScriptRows_makeField_d211 : decode J_MScriptRows_makeField.2.1 211 = .ok (.getfield 44, 3) := by decide +kernel
theorem J_MScriptRows_makeField_d214 : decode J_MScriptRows_makeField.2.1 214 = .ok (.iload_n 3, 1) := by decide +kernel
theorem J_MScriptRows_makeField_d215 : decode J_MScriptRows_makeField.2.1 215 = .ok (.bipush 12, 2) := by decide +kernel
theorem J_MScriptRows_makeField_d217 : decode J_MScriptRows_makeField.2.1 217 = .ok (.iadd, 1) := by decide +kernel
theorem J_MScriptRows_makeField_d218 : decode J_MScriptRows_makeField.2.1 218 = .ok (.iaload, 1) := by decide +kernel
theorem J_MScriptRows_makeField_d219 : decode J_MScriptRows_makeField.2.1 219 = .ok (.aload_n 0, 1) := by decide +kernel
theorem J_MScriptRows_makeField_d220 : decode J_MScriptRows_makeField.2.1 220 = .ok (.getfield 44, 3) := by decide +kernel
theorem J_MScriptRows_makeField_d223 : decode J_MScriptRows_makeField.2.1 223 = .ok (.iload_n 3, 1) := by decide +kernel
theorem J_MScriptRows_makeField_d224 : decode J_MScriptRows_makeField.2.1 224 = .ok (.bipush 13, 2) := by decide +kernel
theorem J_MScriptRows_makeField_d226 : decode J_MScriptRows_makeField.2.1 226 = .ok (.iadd, 1) := by decide +kernel
theorem J_MScriptRows_makeField_d227 : decode J_MScriptRows_makeField.2.1 227 = .ok (.iaload, 1) := by decide +kernel
theorem J_MScriptRows_makeField_d228 : decode J_MScriptRows_makeField.2.1 228 = .ok (.invokevirtual 165, 3) := by decide +kernel
theorem J_MScriptRows_makeField_d231 : decode J_MScriptRows_makeField.2.1 231 = .ok (.goto 200, 3) := by decide +kernel
theorem J_MScriptRows_makeField_d234 : decode J_MScriptRows_makeField.2.1 234 = .ok (.aload_n 0, 1) := by decide +kernel
theorem J_MScriptRows_makeField_d235 : decode J_MScriptRows_makeField.2.1 235 = .ok (.iload_n 1, 1) := by decide +kernel
theorem J_MScriptRows_makeField_d236 : decode J_MScriptRows_makeField.2.1 236 = .ok (.iconst 2, 1) := by decide +kernel
theorem J_MScriptRows_makeField_d237 : decode J_MScriptRows_makeField.2.1 237 = .ok (.aload_n 0, 1) := by decide +kernel
theorem J_MScriptRows_makeField_d238 : decode J_MScriptRows_makeField.2.1 238 = .ok (.getfield 44, 3) := by decide +kernel
theorem J_MScriptRows_makeField_d241 : decode J_MScriptRows_makeField.2.1 241 = .ok (.iload_n 3, 1) := by decide +kernel
theorem J_MScriptRows_makeField_d242 : decode J_MScriptRows_makeField.2.1 242 = .ok (.iconst 3, 1) := by decide +kernel
theorem J_MScriptRows_makeField_d243 : decode J_MScriptRows_makeField.2.1 243 = .ok (.iadd, 1) := by decide +kernel
theorem J_MScriptRows_makeField_d244 : decode J_MScriptRows_makeField.2.1 244 = .ok (.iaload, 1) := by decide +kernel
theorem J_MScriptRows_makeField_d245 : decode J_MScriptRows_makeField.2.1 245 = .ok (.iconst 0, 1) := by decide +kernel
theorem J_MScriptRows_makeField_d246 : decode J_MScriptRows_makeField.2.1 246 = .ok (.iconst 0, 1) := by decide +kernel
theorem J_MScriptRows_makeField_d247 : decode J_MScriptRows_makeField.2.1 247 = .ok (.iconst 0, 1) := by decide +kernel
theorem J_MScriptRows_makeField_d248 : decode J_MScriptRows_makeField.2.1 248 = .ok (.iload 6, 2) := by decide +kernel
theorem J_MScriptRows_makeField_d250 : decode J_MScriptRows_makeField.2.1 250 = .ok (.invokevirtual 161, 3) := by decide +kernel
theorem J_MScriptRows_makeField_d253 : decode J_MScriptRows_makeField.2.1 253 = .ok (.aload_n 0, 1) := by decide +kernel
theorem J_MScriptRows_makeField_d254 : decode J_MScriptRows_makeField.2.1 254 = .ok (.iload 4, 2) := by decide +kernel
theorem J_MScriptRows_makeField_d256 : decode J_MScriptRows_makeField.2.1 256 = .ok (.iload 5, 2) := by decide +kernel
theorem J_MScriptRows_makeField_d258 : decode J_MScriptRows_makeField.2.1 258 = .ok (.iconst 0, 1) := by decide +kernel
theorem J_MScriptRows_makeField_d259 : decode J_MScriptRows_makeField.2.1 259 = .ok (.invokevirtual 165, 3) := by decide +kernel
theorem J_MScriptRows_makeField_d262 : decode J_MScriptRows_makeField.2.1 262 = .ok (.goto 169, 3) := by decide +kernel
theorem J_MScriptRows_makeField_d265 : decode J_MScriptRows_makeField.2.1 265 = .ok (.aload_n 0, 1) := by decide +kernel
theorem J_MScriptRows_makeField_d266 : decode J_MScriptRows_makeField.2.1 266 = .ok (.iload_n 1, 1) := by decide +kernel
theorem J_MScriptRows_makeField_d267 : decode J_MScriptRows_makeField.2.1 267 = .ok (.iconst 3, 1) := by decide +kernel
theorem J_MScriptRows_makeField_d268 : decode J_MScriptRows_makeField.2.1 268 = .ok (.aload_n 0, 1) := by decide +kernel
theorem J_MScriptRows_makeField_d269 : decode J_MScriptRows_makeField.2.1 269 = .ok (.getfield 44, 3) := by decide +kernel
theorem J_MScriptRows_makeField_d272 : decode J_MScriptRows_makeField.2.1 272 = .ok (.iload_n 3, 1) := by decide +kernel
theorem J_MScriptRows_makeField_d273 : decode J_MScriptRows_makeField.2.1 273 = .ok (.iconst 4, 1) := by decide +kernel
theorem J_MScriptRows_makeField_d274 : decode J_MScriptRows_makeField.2.1 274 = .ok (.iadd, 1) := by decide +kernel
theorem J_MScriptRows_makeField_d275 : decode J_MScriptRows_makeField.2.1 275 = .ok (.iaload, 1) := by decide +kernel
theorem J_MScriptRows_makeField_d276 : decode J_MScriptRows_makeField.2.1 276 = .ok (.iconst 0, 1) := by decide +kernel
theorem J_MScriptRows_makeField_d277 : decode J_MScriptRows_makeField.2.1 277 = .ok (.iconst 0, 1) := by decide +kernel
theorem J_MScriptRows_makeField_d278 : decode J_MScriptRows_makeField.2.1 278 = .ok (.iconst 0, 1) := by decide +kernel
theorem J_MScriptRows_makeField_d279 : decode J_MScriptRows_makeField.2.1 279 = .ok (.iload 6, 2) := by decide +kernel
theorem J_MScriptRows_makeField_d281 : decode J_MScriptRows_makeField.2.1 281 = .ok (.invokevirtual 161, 3) := by decide +kernel
theorem J_MScriptRows_makeField_d284 : decode J_MScriptRows_makeField.2.1 284 = .ok (.aload_n 0, 1) := by decide +kernel
theorem J_MScriptRows_makeField_d285 : decode J_MScriptRows_makeField.2.1 285 = .ok (.iload 4, 2) := by decide +kernel
theorem J_MScriptRows_makeField_d287 : decode J_MScriptRows_makeField.2.1 287 = .ok (.iload 5, 2) := by decide +kernel
theorem J_MScriptRows_makeField_d289 : decode J_MScriptRows_makeField.2.1 289 = .ok (.aload_n 0, 1) := by decide +kernel
theorem J_MScriptRows_makeField_d290 : decode J_MScriptRows_makeField.2.1 290 = .ok (.getfield 44, 3) := by decide +kernel
theorem J_MScriptRows_makeField_d293 : decode J_MScriptRows_makeField.2.1 293 = .ok (.iload_n 3, 1) := by decide +kernel
theorem J_MScriptRows_makeField_d294 : decode J_MScriptRows_makeField.2.1 294 = .ok (.iconst 3, 1) := by decide +kernel
theorem J_MScriptRows_makeField_d295 : decode J_MScriptRows_makeField.2.1 295 = .ok (.iadd, 1) := by decide +kernel
theorem J_MScriptRows_makeField_d296 : decode J_MScriptRows_makeField.2.1 296 = .ok (.iaload, 1) := by decide +kernel
theorem J_MScriptRows_makeField_d297 : decode J_MScriptRows_makeField.2.1 297 = .ok (.invokevirtual 165, 3) := by decide +kernel
theorem J_MScriptRows_makeField_d300 : decode J_MScriptRows_makeField.2.1 300 = .ok (.goto 131, 3) := by decide +kernel
theorem J_MScriptRows_makeField_d303 : decode J_MScriptRows_makeField.2.1 303 = .ok (.aload_n 0, 1) := by decide +kernel
theorem J_MScriptRows_makeField_d304 : decode J_MScriptRows_makeField.2.1 304 = .ok (.iload_n 1, 1) := by decide +kernel
theorem J_MScriptRows_makeField_d305 : decode J_MScriptRows_makeField.2.1 305 = .ok (.bipush 7, 2) := by decide +kernel
theorem J_MScriptRows_makeField_d307 : decode J_MScriptRows_makeField.2.1 307 = .ok (.iconst 0, 1) := by decide +kernel
theorem J_MScriptRows_makeField_d308 : decode J_MScriptRows_makeField.2.1 308 = .ok (.iconst 0, 1) := by decide +kernel
theorem J_MScriptRows_makeField_d309 : decode J_MScriptRows_makeField.2.1 309 = .ok (.iconst 0, 1) := by decide +kernel
theorem J_MScriptRows_makeField_d310 : decode J_MScriptRows_makeField.2.1 310 = .ok (.iconst 0, 1) := by decide +kernel
theorem J_MScriptRows_makeField_d311 : decode J_MScriptRows_makeField.2.1 311 = .ok (.iload 6, 2) := by decide +kernel
theorem J_MScriptRows_makeField_d313 : decode J_MScriptRows_makeField.2.1 313 = .ok (.iconst 2, 1) := by decide +kernel
theorem J_MScriptRows_makeField_d314 : decode J_MScriptRows_makeField.2.1 314 = .ok (.idiv, 1) := by decide +kernel
theorem J_MScriptRows_makeField_d315 : decode J_MScriptRows_makeField.2.1 315 = .ok (.invokevirtual 161, 3) := by decide +kernel
theorem J_MScriptRows_makeField_d318 : decode J_MScriptRows_makeField.2.1 318 = .ok (.aload_n 0, 1) := by decide +kernel
theorem J_MScriptRows_makeField_d319 : decode J_MScriptRows_makeField.2.1 319 = .ok (.iload 4, 2) := by decide +kernel
theorem J_MScriptRows_makeField_d321 : decode J_MScriptRows_makeField.2.1 321 = .ok (.iconst 0, 1) := by decide +kernel
theorem J_MScriptRows_makeField_d322 : decode J_MScriptRows_makeField.2.1 322 = .ok (.iconst 0, 1) := by decide +kernel
theorem J_MScriptRows_makeField_d323 : decode J_MScriptRows_makeField.2.1 323 = .ok (.invokevirtual 165, 3) := by decide +kernel
theorem J_MScriptRows_makeField_d326 : decode J_MScriptRows_makeField.2.1 326 = .ok (.goto 105, 3) := by decide +kernel
theorem J_MScriptRows_makeField_d329 : decode J_MScriptRows_makeField.2.1 329 = .ok (.aload_n 0, 1) := by decide +kernel
theorem J_MScriptRows_makeField_d330 : decode J_MScriptRows_makeField.2.1 330 = .ok (.iload_n 1, 1) := by decide +kernel
theorem J_MScriptRows_makeField_d331 : decode J_MScriptRows_makeField.2.1 331 = .ok (.invokevirtual 169, 3) := by decide +kernel
theorem J_MScriptRows_makeField_d334 : decode J_MScriptRows_makeField.2.1 334 = .ok (.goto 97, 3) := by decide +kernel
theorem J_MScriptRows_makeField_d337 : decode J_MScriptRows_makeField.2.1 337 = .ok (.aload_n 0, 1) := by decide +kernel
theorem J_MScriptRows_makeField_d338 : decode J_MScriptRows_makeField.2.1 338 = .ok (.iload_n 1, 1) := by decide +kernel
theorem J_MScriptRows_makeField_d339 : decode J_MScriptRows_makeField.2.1 339 = .ok (.aload_n 0, 1) := by decide +kernel
theorem J_MScriptRows_makeField_d340 : decode J_MScriptRows_makeField.2.1 340 = .ok (.getfield 44, 3) := by decide +kernel
theorem J_MScriptRows_makeField_d343 : decode J_MScriptRows_makeField.2.1 343 = .ok (.iload_n 3, 1) := by decide +kernel
theorem J_MScriptRows_makeField_d344 : decode J_MScriptRows_makeField.2.1 344 = .ok (.iaload, 1) := by decide +kernel
theorem J_MScriptRows_makeField_d345 : decode J_MScriptRows_makeField.2.1 345 = .ok (.iconst 0, 1) := by decide +kernel
theorem J_MScriptRows_makeField_d346 : decode J_MScriptRows_makeField.2.1 346 = .ok (.iconst 0, 1) := by decide +kernel
theorem J_MScriptRows_makeField_d347 : decode J_MScriptRows_makeField.2.1 347 = .ok (.iconst 0, 1) := by decide +kernel
theorem J_MScriptRows_makeField_d348 : decode J_MScriptRows_makeField.2.1 348 = .ok (.iconst 0, 1) := by decide +kernel
theorem J_MScriptRows_makeField_d349 : decode J_MScriptRows_makeField.2.1 349 = .ok (.iconst 0, 1) := by decide +kernel
theorem J_MScriptRows_makeField_d350 : decode J_MScriptRows_makeField.2.1 350 = .ok (.invokevirtual 161, 3) := by decide +kernel
theorem J_MScriptRows_makeField_d353 : decode J_MScriptRows_makeField.2.1 353 = .ok (.aload_n 0, 1) := by decide +kernel
theorem J_MScriptRows_makeField_d354 : decode J_MScriptRows_makeField.2.1 354 = .ok (.iload 4, 2) := by decide +kernel
theorem J_MScriptRows_makeField_d356 : decode J_MScriptRows_makeField.2.1 356 = .ok (.iload 5, 2) := by decide +kernel
theorem J_MScriptRows_makeField_d358 : decode J_MScriptRows_makeField.2.1 358 = .ok (.aload_n 0, 1) := by decide +kernel
theorem J_MScriptRows_makeField_d359 : decode J_MScriptRows_makeField.2.1 359 = .ok (.getfield 44, 3) := by decide +kernel
theorem J_MScriptRows_makeField_d362 : decode J_MScriptRows_makeField.2.1 362 = .ok (.iload_n 3, 1) := by decide +kernel
theorem J_MScriptRows_makeField_d363 : decode J_MScriptRows_makeField.2.1 363 = .ok (.iconst 3, 1) := by decide +kernel
theorem J_MScriptRows_makeField_d364 : decode J_MScriptRows_makeField.2.1 364 = .ok (.iadd, 1) := by decide +kernel
theorem J_MScriptRows_makeField_d365 : decode J_MScriptRows_makeField.2.1 365 = .ok (.iaload, 1) := by decide +kernel
theorem J_MScriptRows_makeField_d366 : decode J_MScriptRows_makeField.2.1 366 = .ok (.invokevirtual 165, 3) := by decide +kernel
theorem J_MScriptRows_makeField_d369 : decode J_MScriptRows_makeField.2.1 369 = .ok (.aload_n 0, 1) := by decide +kernel
theorem J_MScriptRows_makeField_d370 : decode J_MScriptRows_makeField.2.1 370 = .ok (.aload_n 0, 1) := by decide +kernel
theorem J_MScriptRows_makeField_d371 : decode J_MScriptRows_makeField.2.1 371 = .ok (.getfield 132, 3) := by decide +kernel
theorem J_MScriptRows_makeField_d374 : decode J_MScriptRows_makeField.2.1 374 = .ok (.ifCond .ne 49, 3) := by decide +kernel
theorem J_MScriptRows_makeField_d377 : decode J_MScriptRows_makeField.2.1 377 = .ok (.aload_n 0, 1) := by decide +kernel
theorem J_MScriptRows_makeField_d378 : decode J_MScriptRows_makeField.2.1 378 = .ok (.getfield 44, 3) := by decide +kernel
theorem J_MScriptRows_makeField_d381 : decode J_MScriptRows_makeField.2.1 381 = .ok (.iload_n 3, 1) := by decide +kernel
theorem J_MScriptRows_makeField_d382 : decode J_MScriptRows_makeField.2.1 382 = .ok (.iaload, 1) := by decide +kernel
theorem J_MScriptRows_makeField_d383 : decode J_MScriptRows_makeField.2.1 383 = .ok (.bipush 6, 2) := by decide +kernel
theorem J_MScriptRows_makeField_d385 : decode J_MScriptRows_makeField.2.1 385 = .ok (.if_icmp .ne 42, 3) := by decide +kernel
theorem J_MScriptRows_makeField_d388 : decode J_MScriptRows_makeField.2.1 388 = .ok (.aload_n 0, 1) := by decide +kernel
theorem J_MScriptRows_makeField_d389 : decode J_MScriptRows_makeField.2.1 389 = .ok (.getfield 44, 3) := by decide +kernel
theorem J_MScriptRows_makeField_d392 : decode J_MScriptRows_makeField.2.1 392 = .ok (.iload_n 3, 1) := by decide +kernel
theorem J_MScriptRows_makeField_d393 : decode J_MScriptRows_makeField.2.1 393 = .ok (.iconst 5, 1) := by decide +kernel
theorem J_MScriptRows_makeField_d394 : decode J_MScriptRows_makeField.2.1 394 = .ok (.iadd, 1) := by decide +kernel
theorem J_MScriptRows_makeField_d395 : decode J_MScriptRows_makeField.2.1 395 = .ok (.iaload, 1) := by decide +kernel
theorem J_MScriptRows_makeField_d396 : decode J_MScriptRows_makeField.2.1 396 = .ok (.iload 4, 2) := by decide +kernel
theorem J_MScriptRows_makeField_d398 : decode J_MScriptRows_makeField.2.1 398 = .ok (.iadd, 1) := by decide +kernel
theorem J_MScriptRows_makeField_d399 : decode J_MScriptRows_makeField.2.1 399 = .ok (.invokestatic 152, 3) := by decide +kernel
theorem J_MScriptRows_makeField_d402 : decode J_MScriptRows_makeField.2.1 402 = .ok (.ifCond .ne 21, 3) := by decide +kernel
theorem J_MScriptRows_makeField_d405 : decode J_MScriptRows_makeField.2.1 405 = .ok (.aload_n 0, 1) := by decide +kernel
theorem J_MScriptRows_makeField_d406 : decode J_MScriptRows_makeField.2.1 406 = .ok (.getfield 44, 3) := by decide +kernel
theorem J_MScriptRows_makeField_d409 : decode J_MScriptRows_makeField.2.1 409 = .ok (.iload_n 3, 1) := by decide +kernel
theorem J_MScriptRows_makeField_d410 : decode J_MScriptRows_makeField.2.1 410 = .ok (.bipush 6, 2) := by decide +kernel
theorem J_MScriptRows_makeField_d412 : decode J_MScriptRows_makeField.2.1 412 = .ok (.iadd, 1) := by decide +kernel
theorem J_MScriptRows_makeField_d413 : decode J_MScriptRows_makeField.2.1 413 = .ok (.iaload, 1) := by decide +kernel
theorem J_MScriptRows_makeField_d414 : decode J_MScriptRows_makeField.2.1 414 = .ok (.iload 5, 2) := by decide +kernel
theorem J_MScriptRows_makeField_d416 : decode J_MScriptRows_makeField.2.1 416 = .ok (.iadd, 1) := by decide +kernel
theorem J_MScriptRows_makeField_d417 : decode J_MScriptRows_makeField.2.1 417 = .ok (.invokestatic 152, 3) := by decide +kernel
theorem J_MScriptRows_makeField_d420 : decode J_MScriptRows_makeField.2.1 420 = .ok (.ifCond .eq 7, 3) := by decide +kernel
theorem J_MScriptRows_makeField_d423 : decode J_MScriptRows_makeField.2.1 423 = .ok (.iconst 1, 1) := by decide +kernel
theorem J_MScriptRows_makeField_d424 : decode J_MScriptRows_makeField.2.1 424 = .ok (.goto 4, 3) := by decide +kernel
theorem J_MScriptRows_makeField_d427 : decode J_MScriptRows_makeField.2.1 427 = .ok (.iconst 0, 1) := by decide +kernel
theorem J_MScriptRows_makeField_d428 : decode J_MScriptRows_makeField.2.1 428 = .ok (.putfield 132, 3) := by decide +kernel
theorem J_MScriptRows_makeField_d431 : decode J_MScriptRows_makeField.2.1 431 = .ok (.return_, 1) := by decide +kernel
theorem f_MScriptRows_makeField_ok {L : Nat} {xs : Nat → Int32} {dep : Nat} {w : Bool} {p0 : Int32} {p1 : Int32} {M : im_M} {Q : im_M → Prop} (hM : lw_S w M) (h : ed (f_MScriptRows_makeField p0 p1 M) Q) : ia (tb_G L xs) (dep + 5) J_MScriptRows_makeField (rwV w Q) (0, lv_args 0 [.ref 71, .int p0, .int p1], [], M) := by
  have hS : im_St (tb_G L xs) (dep + 5) J_MScriptRows_makeField (ia (tb_G L xs) (dep + 5) J_MScriptRows_makeField (rwV w Q)) := ia_St
  unfold f_MScriptRows_makeField at h
  have l0 : im_lk (lv_args 0 [.ref 71, .int p0, .int p1]) 0 = some (.ref 71) := rfl
  have l1 : im_lk (lv_args 0 [.ref 71, .int p0, .int p1]) 1 = some (.int p0) := rfl
  have l2 : im_lk (lv_args 0 [.ref 71, .int p0, .int p1]) 2 = some (.int p1) := rfl
  refine iq_bipush hS 2 J_MScriptRows_makeField_d0 (v := 16) (by decide +kernel) rfl ?_
  refine iq_iload_n hS 3 J_MScriptRows_makeField_d2 l1 rfl ?_
  refine iq_imul hS 4 J_MScriptRows_makeField_d3 rfl ?_
  refine iq_istore_n hS 5 J_MScriptRows_makeField_d4 (by decide) rfl ?_
  refine iq_aload_n hS 6 J_MScriptRows_makeField_d5 (lk_1r l0 (by decide)) rfl ?_
  refine iq_getR hS 9 J_MScriptRows_makeField_d6 lf_15_44 (Or.inr ⟨_, rfl⟩) (ka_71 hM) (ra_71_28 hM) rfl ?_
  refine iq_iload_n hS 10 J_MScriptRows_makeField_d9 lk_1s rfl ?_
  refine iq_iconst hS 11 J_MScriptRows_makeField_d10 (v := 1) (by decide +kernel) rfl ?_
  refine iq_iadd hS 12 J_MScriptRows_makeField_d11 rfl ?_
  obtain ⟨g12, h⟩ := ed_gd h
  refine iq_iaload hS 13 J_MScriptRows_makeField_d12 ⟨(ka_82 hM).1, (ka_82 hM).2, g12.1, ix_lt (kl_82 hM) g12.2⟩ rfl ?_
  refine iq_istore hS 15 J_MScriptRows_makeField_d13 (by decide) rfl ?_
  refine iq_aload_n hS 16 J_MScriptRows_makeField_d15 (lk_1r (lk_1r l0 (by decide)) (by decide)) rfl ?_
  refine iq_getR hS 19 J_MScriptRows_makeField_d16 lf_15_44 (Or.inr ⟨_, rfl⟩) (ka_71 hM) (ra_71_28 hM) rfl ?_
  refine iq_iload_n hS 20 J_MScriptRows_makeField_d19 (lk_1i lk_1s (by decide)) rfl ?_
  refine iq_iconst hS 21 J_MScriptRows_makeField_d20 (v := 2) (by decide +kernel) rfl ?_
  refine iq_iadd hS 22 J_MScriptRows_makeField_d21 rfl ?_
  obtain ⟨g22, h⟩ := ed_gd h
  refine iq_iaload hS 23 J_MScriptRows_makeField_d22 ⟨(ka_82 hM).1, (ka_82 hM).2, g22.1, ix_lt (kl_82 hM) g22.2⟩ rfl ?_
  refine iq_istore hS 25 J_MScriptRows_makeField_d23 (by decide) rfl ?_
  refine iq_aload_n hS 26 J_MScriptRows_makeField_d25 (lk_1r (lk_1r (lk_1r l0 (by decide)) (by decide)) (by decide)) rfl ?_
  refine iq_getR hS 29 J_MScriptRows_makeField_d26 lf_15_44 (Or.inr ⟨_, rfl⟩) (ka_71 hM) (ra_71_28 hM) rfl ?_
  refine iq_iload_n hS 30 J_MScriptRows_makeField_d29 (lk_1i (lk_1i lk_1s (by decide)) (by decide)) rfl ?_
  refine iq_bipush hS 32 J_MScriptRows_makeField_d30 (v := 10) (by decide +kernel) rfl ?_
  refine iq_iadd hS 33 J_MScriptRows_makeField_d32 rfl ?_
  obtain ⟨g33, h⟩ := ed_gd h
  refine iq_iaload hS 34 J_MScriptRows_makeField_d33 ⟨(ka_82 hM).1, (ka_82 hM).2, g33.1, ix_lt (kl_82 hM) g33.2⟩ rfl ?_
  refine iq_istore hS 36 J_MScriptRows_makeField_d34 (by decide) rfl ?_
  refine iq_aload_n hS 37 J_MScriptRows_makeField_d36 (lk_1r (lk_1r (lk_1r (lk_1r l0 (by decide)) (by decide)) (by decide)) (by decide)) rfl ?_
  refine iq_iload_n hS 38 J_MScriptRows_makeField_d37 (lk_1i (lk_1i (lk_1i (lk_1i l1 (by decide)) (by decide)) (by decide)) (by decide)) rfl ?_
  refine iq_iload_n hS 39 J_MScriptRows_makeField_d38 (lk_1i (lk_1i (lk_1i (lk_1i l2 (by decide)) (by decide)) (by decide)) (by decide)) rfl ?_
  obtain ⟨Q1, hQ1, h⟩ := bd1_ed h
  refine iq_cwV hS 42 J_MScriptRows_makeField_d39 rfl (pr_inst (vs := [_, _]) lc_15_158 lT_295 rfl rfl (by decide) (by decide) rfl (Nat.le_of_ble_eq_true rfl) (Nat.le_of_ble_eq_true rfl) (fun _ => Or.inl (pr_b (ka_71 hM) (by decide) rfl))) (f_MScriptRows_takeCopy_ok (dep := dep + 3) hM h) rfl ?_
  intro M1 hM1 h
  replace h := hQ1 _ h
  refine iq_aload_n hS 43 J_MScriptRows_makeField_d42 (lk_1r (lk_1r (lk_1r (lk_1r l0 (by decide)) (by decide)) (by decide)) (by decide)) rfl ?_
  refine iq_getR hS 46 J_MScriptRows_makeField_d43 lf_15_44 (Or.inr ⟨_, rfl⟩) (ka_71 hM1) (ra_71_28 hM1) rfl ?_
  refine iq_iload_n hS 47 J_MScriptRows_makeField_d46 (lk_1i (lk_1i (lk_1i lk_1s (by decide)) (by decide)) (by decide)) rfl ?_
  obtain ⟨g47, h⟩ := ed_gd h
  refine iq_iaload hS 48 J_MScriptRows_makeField_d47 ⟨(ka_82 hM1).1, (ka_82 hM1).2, g47.1, ix_lt (kl_82 hM1) g47.2⟩ rfl ?_
  by_cases q48_0 : (im_i M1 82 (Int32.toNatClampNeg ((16 : Int32) * p0))) = 0
  · replace h := ed_pos q48_0 h
    refine iq_tsw hS J_MScriptRows_makeField_d48 (t := 100) (sw_v q48_0 (by decide +kernel)) ?_
    refine iq_aload_n hS 101 J_MScriptRows_makeField_d100 (lk_1r (lk_1r (lk_1r (lk_1r l0 (by decide)) (by decide)) (by decide)) (by decide)) rfl ?_
    refine iq_iload_n hS 102 J_MScriptRows_makeField_d101 (lk_1i (lk_1i (lk_1i (lk_1i l1 (by decide)) (by decide)) (by decide)) (by decide)) rfl ?_
    refine iq_iconst hS 103 J_MScriptRows_makeField_d102 (v := 0) (by decide +kernel) rfl ?_
    refine iq_aload_n hS 104 J_MScriptRows_makeField_d103 (lk_1r (lk_1r (lk_1r (lk_1r l0 (by decide)) (by decide)) (by decide)) (by decide)) rfl ?_
    refine iq_getR hS 107 J_MScriptRows_makeField_d104 lf_15_44 (Or.inr ⟨_, rfl⟩) (ka_71 hM1) (ra_71_28 hM1) rfl ?_
    refine iq_iload_n hS 108 J_MScriptRows_makeField_d107 (lk_1i (lk_1i (lk_1i lk_1s (by decide)) (by decide)) (by decide)) rfl ?_
    refine iq_iconst hS 109 J_MScriptRows_makeField_d108 (v := 4) (by decide +kernel) rfl ?_
    refine iq_iadd hS 110 J_MScriptRows_makeField_d109 rfl ?_
    obtain ⟨g110, h⟩ := ed_gd h
    refine iq_iaload hS 111 J_MScriptRows_makeField_d110 ⟨(ka_82 hM1).1, (ka_82 hM1).2, g110.1, ix_lt (kl_82 hM1) g110.2⟩ rfl ?_
    refine iq_iconst hS 112 J_MScriptRows_makeField_d111 (v := 0) (by decide +kernel) rfl ?_
    refine iq_iconst hS 113 J_MScriptRows_makeField_d112 (v := 0) (by decide +kernel) rfl ?_
    refine iq_iconst hS 114 J_MScriptRows_makeField_d113 (v := 0) (by decide +kernel) rfl ?_
    refine iq_iload hS 116 J_MScriptRows_makeField_d114 lk_1s rfl ?_
    obtain ⟨Q2, hQ2, h⟩ := bd1_ed h
    refine iq_cwV hS 119 J_MScriptRows_makeField_d116 rfl (pr_inst (vs := [_, _, _, _, _, _, _]) lc_15_161 lT_296 rfl rfl (by decide) (by decide) rfl (Nat.le_of_ble_eq_true rfl) (Nat.le_of_ble_eq_true rfl) (fun _ => Or.inl (pr_b (ka_71 hM1) (by decide) rfl))) (f_MScriptRows_give_ok (dep := dep + 2) hM1 h) rfl ?_
    intro M2 hM2 h
    replace h := hQ2 _ h
    refine iq_aload_n hS 120 J_MScriptRows_makeField_d119 (lk_1r (lk_1r (lk_1r (lk_1r l0 (by decide)) (by decide)) (by decide)) (by decide)) rfl ?_
    refine iq_iload hS 122 J_MScriptRows_makeField_d120 (lk_1i (lk_1i lk_1s (by decide)) (by decide)) rfl ?_
    refine iq_iload hS 124 J_MScriptRows_makeField_d122 (lk_1i lk_1s (by decide)) rfl ?_
    refine iq_aload_n hS 125 J_MScriptRows_makeField_d124 (lk_1r (lk_1r (lk_1r (lk_1r l0 (by decide)) (by decide)) (by decide)) (by decide)) rfl ?_
    refine iq_getR hS 128 J_MScriptRows_makeField_d125 lf_15_44 (Or.inr ⟨_, rfl⟩) (ka_71 hM2) (ra_71_28 hM2) rfl ?_
    refine iq_iload_n hS 129 J_MScriptRows_makeField_d128 (lk_1i (lk_1i (lk_1i lk_1s (by decide)) (by decide)) (by decide)) rfl ?_
    refine iq_iconst hS 130 J_MScriptRows_makeField_d129 (v := 3) (by decide +kernel) rfl ?_
    refine iq_iadd hS 131 J_MScriptRows_makeField_d130 rfl ?_
    obtain ⟨g131, h⟩ := ed_gd h
    refine iq_iaload hS 132 J_MScriptRows_makeField_d131 ⟨(ka_82 hM2).1, (ka_82 hM2).2, g131.1, ix_lt (kl_82 hM2) g131.2⟩ rfl ?_
    obtain ⟨Q3, hQ3, h⟩ := bd1_ed h
    refine iq_cwV hS 135 J_MScriptRows_makeField_d132 rfl (pr_inst (vs := [_, _, _]) lc_15_165 lT_300 rfl rfl (by decide) (by decide) rfl (Nat.le_of_ble_eq_true rfl) (Nat.le_of_ble_eq_true rfl) (fun _ => Or.inl (pr_b (ka_71 hM2) (by decide) rfl))) (f_MScriptRows_have_ok (dep := dep + 4) hM2 h) rfl ?_
    intro M3 hM3 h
    replace h := hQ3 _ h
    refine iq_goto hS J_MScriptRows_makeField_d135 (t := 431) rfl ?_
    exact iq_ret J_MScriptRows_makeField_d431 rfl ⟨rfl, hM3, ed_some h⟩
  replace h := ed_neg q48_0 h
  by_cases q48_1 : (im_i M1 82 (Int32.toNatClampNeg ((16 : Int32) * p0))) = 1
  · replace h := ed_pos q48_1 h
    refine iq_tsw hS J_MScriptRows_makeField_d48 (t := 138) (sw_v q48_1 (by decide +kernel)) ?_
    refine iq_aload_n hS 139 J_MScriptRows_makeField_d138 (lk_1r (lk_1r (lk_1r (lk_1r l0 (by decide)) (by decide)) (by decide)) (by decide)) rfl ?_
    refine iq_iload_n hS 140 J_MScriptRows_makeField_d139 (lk_1i (lk_1i (lk_1i (lk_1i l1 (by decide)) (by decide)) (by decide)) (by decide)) rfl ?_
    refine iq_iconst hS 141 J_MScriptRows_makeField_d140 (v := 1) (by decide +kernel) rfl ?_
    refine iq_aload_n hS 142 J_MScriptRows_makeField_d141 (lk_1r (lk_1r (lk_1r (lk_1r l0 (by decide)) (by decide)) (by decide)) (by decide)) rfl ?_
    refine iq_getR hS 145 J_MScriptRows_makeField_d142 lf_15_44 (Or.inr ⟨_, rfl⟩) (ka_71 hM1) (ra_71_28 hM1) rfl ?_
    refine iq_iload_n hS 146 J_MScriptRows_makeField_d145 (lk_1i (lk_1i (lk_1i lk_1s (by decide)) (by decide)) (by decide)) rfl ?_
    refine iq_iconst hS 147 J_MScriptRows_makeField_d146 (v := 3) (by decide +kernel) rfl ?_
    refine iq_iadd hS 148 J_MScriptRows_makeField_d147 rfl ?_
    obtain ⟨g148, h⟩ := ed_gd h
    refine iq_iaload hS 149 J_MScriptRows_makeField_d148 ⟨(ka_82 hM1).1, (ka_82 hM1).2, g148.1, ix_lt (kl_82 hM1) g148.2⟩ rfl ?_
    refine iq_iconst hS 150 J_MScriptRows_makeField_d149 (v := 0) (by decide +kernel) rfl ?_
    refine iq_iconst hS 151 J_MScriptRows_makeField_d150 (v := 0) (by decide +kernel) rfl ?_
    refine iq_iconst hS 152 J_MScriptRows_makeField_d151 (v := 0) (by decide +kernel) rfl ?_
    refine iq_iload hS 154 J_MScriptRows_makeField_d152 lk_1s rfl ?_
    obtain ⟨Q4, hQ4, h⟩ := bd1_ed h
    refine iq_cwV hS 157 J_MScriptRows_makeField_d154 rfl (pr_inst (vs := [_, _, _, _, _, _, _]) lc_15_161 lT_296 rfl rfl (by decide) (by decide) rfl (Nat.le_of_ble_eq_true rfl) (Nat.le_of_ble_eq_true rfl) (fun _ => Or.inl (pr_b (ka_71 hM1) (by decide) rfl))) (f_MScriptRows_give_ok (dep := dep + 2) hM1 h) rfl ?_
    intro M4 hM4 h
    replace h := hQ4 _ h
    refine iq_aload_n hS 158 J_MScriptRows_makeField_d157 (lk_1r (lk_1r (lk_1r (lk_1r l0 (by decide)) (by decide)) (by decide)) (by decide)) rfl ?_
    refine iq_iload hS 160 J_MScriptRows_makeField_d158 (lk_1i (lk_1i lk_1s (by decide)) (by decide)) rfl ?_
    refine iq_iload hS 162 J_MScriptRows_makeField_d160 (lk_1i lk_1s (by decide)) rfl ?_
    refine iq_iconst hS 163 J_MScriptRows_makeField_d162 (v := 0) (by decide +kernel) rfl ?_
    obtain ⟨Q5, hQ5, h⟩ := bd1_ed h
    refine iq_cwV hS 166 J_MScriptRows_makeField_d163 rfl (pr_inst (vs := [_, _, _]) lc_15_165 lT_300 rfl rfl (by decide) (by decide) rfl (Nat.le_of_ble_eq_true rfl) (Nat.le_of_ble_eq_true rfl) (fun _ => Or.inl (pr_b (ka_71 hM4) (by decide) rfl))) (f_MScriptRows_have_ok (dep := dep + 4) hM4 h) rfl ?_
    intro M5 hM5 h
    replace h := hQ5 _ h
    refine iq_aload_n hS 167 J_MScriptRows_makeField_d166 (lk_1r (lk_1r (lk_1r (lk_1r l0 (by decide)) (by decide)) (by decide)) (by decide)) rfl ?_
    refine iq_getR hS 170 J_MScriptRows_makeField_d167 lf_15_44 (Or.inr ⟨_, rfl⟩) (ka_71 hM5) (ra_71_28 hM5) rfl ?_
    refine iq_iload_n hS 171 J_MScriptRows_makeField_d170 (lk_1i (lk_1i (lk_1i lk_1s (by decide)) (by decide)) (by decide)) rfl ?_
    refine iq_iconst hS 172 J_MScriptRows_makeField_d171 (v := 4) (by decide +kernel) rfl ?_
    refine iq_iadd hS 173 J_MScriptRows_makeField_d172 rfl ?_
    obtain ⟨g173, h⟩ := ed_gd h
    refine iq_iaload hS 174 J_MScriptRows_makeField_d173 ⟨(ka_82 hM5).1, (ka_82 hM5).2, g173.1, ix_lt (kl_82 hM5) g173.2⟩ rfl ?_
    refine iq_iconst hS 175 J_MScriptRows_makeField_d174 (v := 1) (by decide +kernel) rfl ?_
    refine iq_icmp_ne hS 178 J_MScriptRows_makeField_d175 (t := 431) rfl (fun q175 => ?_) rfl (fun q175 => ?_)
    · replace h := ed_pos q175 h
      exact iq_ret J_MScriptRows_makeField_d431 rfl ⟨rfl, hM5, ed_some h⟩
    · replace h := ed_neg q175 h
      refine iq_aload_n hS 179 J_MScriptRows_makeField_d178 (lk_1r (lk_1r (lk_1r (lk_1r l0 (by decide)) (by decide)) (by decide)) (by decide)) rfl ?_
      refine iq_iload_n hS 180 J_MScriptRows_makeField_d179 (lk_1i (lk_1i (lk_1i (lk_1i l1 (by decide)) (by decide)) (by decide)) (by decide)) rfl ?_
      refine iq_iconst hS 181 J_MScriptRows_makeField_d180 (v := 0) (by decide +kernel) rfl ?_
      refine iq_aload_n hS 182 J_MScriptRows_makeField_d181 (lk_1r (lk_1r (lk_1r (lk_1r l0 (by decide)) (by decide)) (by decide)) (by decide)) rfl ?_
      refine iq_getR hS 185 J_MScriptRows_makeField_d182 lf_15_44 (Or.inr ⟨_, rfl⟩) (ka_71 hM5) (ra_71_28 hM5) rfl ?_
      refine iq_iload_n hS 186 J_MScriptRows_makeField_d185 (lk_1i (lk_1i (lk_1i lk_1s (by decide)) (by decide)) (by decide)) rfl ?_
      refine iq_iconst hS 187 J_MScriptRows_makeField_d186 (v := 3) (by decide +kernel) rfl ?_
      refine iq_iadd hS 188 J_MScriptRows_makeField_d187 rfl ?_
      obtain ⟨g188, h⟩ := ed_gd h
      refine iq_iaload hS 189 J_MScriptRows_makeField_d188 ⟨(ka_82 hM5).1, (ka_82 hM5).2, g188.1, ix_lt (kl_82 hM5) g188.2⟩ rfl ?_
      refine iq_iconst hS 190 J_MScriptRows_makeField_d189 (v := 0) (by decide +kernel) rfl ?_
      refine iq_iload hS 192 J_MScriptRows_makeField_d190 (lk_1i lk_1s (by decide)) rfl ?_
      refine iq_iconst hS 193 J_MScriptRows_makeField_d192 (v := 3) (by decide +kernel) rfl ?_
      refine iq_iadd hS 194 J_MScriptRows_makeField_d193 rfl ?_
      refine iq_iconst hS 195 J_MScriptRows_makeField_d194 (v := 0) (by decide +kernel) rfl ?_
      refine iq_iload hS 197 J_MScriptRows_makeField_d195 lk_1s rfl ?_
      obtain ⟨Q6, hQ6, h⟩ := bd1_ed h
      refine iq_cwV hS 200 J_MScriptRows_makeField_d197 rfl (pr_inst (vs := [_, _, _, _, _, _, _]) lc_15_161 lT_296 rfl rfl (by decide) (by decide) rfl (Nat.le_of_ble_eq_true rfl) (Nat.le_of_ble_eq_true rfl) (fun _ => Or.inl (pr_b (ka_71 hM5) (by decide) rfl))) (f_MScriptRows_give_ok (dep := dep + 2) hM5 h) rfl ?_
      intro M6 hM6 h
      replace h := hQ6 _ h
      refine iq_aload_n hS 201 J_MScriptRows_makeField_d200 (lk_1r (lk_1r (lk_1r (lk_1r l0 (by decide)) (by decide)) (by decide)) (by decide)) rfl ?_
      refine iq_aload_n hS 202 J_MScriptRows_makeField_d201 (lk_1r (lk_1r (lk_1r (lk_1r l0 (by decide)) (by decide)) (by decide)) (by decide)) rfl ?_
      refine iq_getR hS 205 J_MScriptRows_makeField_d202 lf_15_44 (Or.inr ⟨_, rfl⟩) (ka_71 hM6) (ra_71_28 hM6) rfl ?_
      refine iq_iload_n hS 206 J_MScriptRows_makeField_d205 (lk_1i (lk_1i (lk_1i lk_1s (by decide)) (by decide)) (by decide)) rfl ?_
      refine iq_bipush hS 208 J_MScriptRows_makeField_d206 (v := 11) (by decide +kernel) rfl ?_
      refine iq_iadd hS 209 J_MScriptRows_makeField_d208 rfl ?_
      obtain ⟨g209, h⟩ := ed_gd h
      refine iq_iaload hS 210 J_MScriptRows_makeField_d209 ⟨(ka_82 hM6).1, (ka_82 hM6).2, g209.1, ix_lt (kl_82 hM6) g209.2⟩ rfl ?_
      refine iq_aload_n hS 211 J_MScriptRows_makeField_d210 (lk_1r (lk_1r (lk_1r (lk_1r l0 (by decide)) (by decide)) (by decide)) (by decide)) rfl ?_
      refine iq_getR hS 214 J_MScriptRows_makeField_d211 lf_15_44 (Or.inr ⟨_, rfl⟩) (ka_71 hM6) (ra_71_28 hM6) rfl ?_
      refine iq_iload_n hS 215 J_MScriptRows_makeField_d214 (lk_1i (lk_1i (lk_1i lk_1s (by decide)) (by decide)) (by decide)) rfl ?_
      refine iq_bipush hS 217 J_MScriptRows_makeField_d215 (v := 12) (by decide +kernel) rfl ?_
      refine iq_iadd hS 218 J_MScriptRows_makeField_d217 rfl ?_
      obtain ⟨g218, h⟩ := ed_gd h
      refine iq_iaload hS 219 J_MScriptRows_makeField_d218 ⟨(ka_82 hM6).1, (ka_82 hM6).2, g218.1, ix_lt (kl_82 hM6) g218.2⟩ rfl ?_
      refine iq_aload_n hS 220 J_MScriptRows_makeField_d219 (lk_1r (lk_1r (lk_1r (lk_1r l0 (by decide)) (by decide)) (by decide)) (by decide)) rfl ?_
      refine iq_getR hS 223 J_MScriptRows_makeField_d220 lf_15_44 (Or.inr ⟨_, rfl⟩) (ka_71 hM6) (ra_71_28 hM6) rfl ?_
      refine iq_iload_n hS 224 J_MScriptRows_makeField_d223 (lk_1i (lk_1i (lk_1i lk_1s (by decide)) (by decide)) (by decide)) rfl ?_
      refine iq_bipush hS 226 J_MScriptRows_makeField_d224 (v := 13) (by decide +kernel) rfl ?_
      refine iq_iadd hS 227 J_MScriptRows_makeField_d226 rfl ?_
      obtain ⟨g227, h⟩ := ed_gd h
      refine iq_iaload hS 228 J_MScriptRows_makeField_d227 ⟨(ka_82 hM6).1, (ka_82 hM6).2, g227.1, ix_lt (kl_82 hM6) g227.2⟩ rfl ?_
      obtain ⟨Q7, hQ7, h⟩ := bd1_ed h
      refine iq_cwV hS 231 J_MScriptRows_makeField_d228 rfl (pr_inst (vs := [_, _, _]) lc_15_165 lT_300 rfl rfl (by decide) (by decide) rfl (Nat.le_of_ble_eq_true rfl) (Nat.le_of_ble_eq_true rfl) (fun _ => Or.inl (pr_b (ka_71 hM6) (by decide) rfl))) (f_MScriptRows_have_ok (dep := dep + 4) hM6 h) rfl ?_
      intro M7 hM7 h
      replace h := hQ7 _ h
      refine iq_goto hS J_MScriptRows_makeField_d231 (t := 431) rfl ?_
      exact iq_ret J_MScriptRows_makeField_d431 rfl ⟨rfl, hM7, ed_some h⟩
  replace h := ed_neg q48_1 h
  by_cases q48_2 : (im_i M1 82 (Int32.toNatClampNeg ((16 : Int32) * p0))) = 2
  · replace h := ed_pos q48_2 h
    refine iq_tsw hS J_MScriptRows_makeField_d48 (t := 234) (sw_v q48_2 (by decide +kernel)) ?_
    refine iq_aload_n hS 235 J_MScriptRows_makeField_d234 (lk_1r (lk_1r (lk_1r (lk_1r l0 (by decide)) (by decide)) (by decide)) (by decide)) rfl ?_
    refine iq_iload_n hS 236 J_MScriptRows_makeField_d235 (lk_1i (lk_1i (lk_1i (lk_1i l1 (by decide)) (by decide)) (by decide)) (by decide)) rfl ?_
    refine iq_iconst hS 237 J_MScriptRows_makeField_d236 (v := 2) (by decide +kernel) rfl ?_
    refine iq_aload_n hS 238 J_MScriptRows_makeField_d237 (lk_1r (lk_1r (lk_1r (lk_1r l0 (by decide)) (by decide)) (by decide)) (by decide)) rfl ?_
    refine iq_getR hS 241 J_MScriptRows_makeField_d238 lf_15_44 (Or.inr ⟨_, rfl⟩) (ka_71 hM1) (ra_71_28 hM1) rfl ?_
    refine iq_iload_n hS 242 J_MScriptRows_makeField_d241 (lk_1i (lk_1i (lk_1i lk_1s (by decide)) (by decide)) (by decide)) rfl ?_
    refine iq_iconst hS 243 J_MScriptRows_makeField_d242 (v := 3) (by decide +kernel) rfl ?_
    refine iq_iadd hS 244 J_MScriptRows_makeField_d243 rfl ?_
    obtain ⟨g244, h⟩ := ed_gd h
    refine iq_iaload hS 245 J_MScriptRows_makeField_d244 ⟨(ka_82 hM1).1, (ka_82 hM1).2, g244.1, ix_lt (kl_82 hM1) g244.2⟩ rfl ?_
    refine iq_iconst hS 246 J_MScriptRows_makeField_d245 (v := 0) (by decide +kernel) rfl ?_
    refine iq_iconst hS 247 J_MScriptRows_makeField_d246 (v := 0) (by decide +kernel) rfl ?_
    refine iq_iconst hS 248 J_MScriptRows_makeField_d247 (v := 0) (by decide +kernel) rfl ?_
    refine iq_iload hS 250 J_MScriptRows_makeField_d248 lk_1s rfl ?_
    obtain ⟨Q8, hQ8, h⟩ := bd1_ed h
    refine iq_cwV hS 253 J_MScriptRows_makeField_d250 rfl (pr_inst (vs := [_, _, _, _, _, _, _]) lc_15_161 lT_296 rfl rfl (by decide) (by decide) rfl (Nat.le_of_ble_eq_true rfl) (Nat.le_of_ble_eq_true rfl) (fun _ => Or.inl (pr_b (ka_71 hM1) (by decide) rfl))) (f_MScriptRows_give_ok (dep := dep + 2) hM1 h) rfl ?_
    intro M8 hM8 h
    replace h := hQ8 _ h
    refine iq_aload_n hS 254 J_MScriptRows_makeField_d253 (lk_1r (lk_1r (lk_1r (lk_1r l0 (by decide)) (by decide)) (by decide)) (by decide)) rfl ?_
    refine iq_iload hS 256 J_MScriptRows_makeField_d254 (lk_1i (lk_1i lk_1s (by decide)) (by decide)) rfl ?_
    refine iq_iload hS 258 J_MScriptRows_makeField_d256 (lk_1i lk_1s (by decide)) rfl ?_
    refine iq_iconst hS 259 J_MScriptRows_makeField_d258 (v := 0) (by decide +kernel) rfl ?_
    obtain ⟨Q9, hQ9, h⟩ := bd1_ed h
    refine iq_cwV hS 262 J_MScriptRows_makeField_d259 rfl (pr_inst (vs := [_, _, _]) lc_15_165 lT_300 rfl rfl (by decide) (by decide) rfl (Nat.le_of_ble_eq_true rfl) (Nat.le_of_ble_eq_true rfl) (fun _ => Or.inl (pr_b (ka_71 hM8) (by decide) rfl))) (f_MScriptRows_have_ok (dep := dep + 4) hM8 h) rfl ?_
    intro M9 hM9 h
    replace h := hQ9 _ h
    refine iq_goto hS J_MScriptRows_makeField_d262 (t := 431) rfl ?_
    exact iq_ret J_MScriptRows_makeField_d431 rfl ⟨rfl, hM9, ed_some h⟩
  replace h := ed_neg q48_2 h
  by_cases q48_3 : (im_i M1 82 (Int32.toNatClampNeg ((16 : Int32) * p0))) = 3
  · replace h := ed_pos q48_3 h
    refine iq_tsw hS J_MScriptRows_makeField_d48 (t := 265) (sw_v q48_3 (by decide +kernel)) ?_
    refine iq_aload_n hS 266 J_MScriptRows_makeField_d265 (lk_1r (lk_1r (lk_1r (lk_1r l0 (by decide)) (by decide)) (by decide)) (by decide)) rfl ?_
    refine iq_iload_n hS 267 J_MScriptRows_makeField_d266 (lk_1i (lk_1i (lk_1i (lk_1i l1 (by decide)) (by decide)) (by decide)) (by decide)) rfl ?_
    refine iq_iconst hS 268 J_MScriptRows_makeField_d267 (v := 3) (by decide +kernel) rfl ?_
    refine iq_aload_n hS 269 J_MScriptRows_makeField_d268 (lk_1r (lk_1r (lk_1r (lk_1r l0 (by decide)) (by decide)) (by decide)) (by decide)) rfl ?_
    refine iq_getR hS 272 J_MScriptRows_makeField_d269 lf_15_44 (Or.inr ⟨_, rfl⟩) (ka_71 hM1) (ra_71_28 hM1) rfl ?_
    refine iq_iload_n hS 273 J_MScriptRows_makeField_d272 (lk_1i (lk_1i (lk_1i lk_1s (by decide)) (by decide)) (by decide)) rfl ?_
    refine iq_iconst hS 274 J_MScriptRows_makeField_d273 (v := 4) (by decide +kernel) rfl ?_
    refine iq_iadd hS 275 J_MScriptRows_makeField_d274 rfl ?_
    obtain ⟨g275, h⟩ := ed_gd h
    refine iq_iaload hS 276 J_MScriptRows_makeField_d275 ⟨(ka_82 hM1).1, (ka_82 hM1).2, g275.1, ix_lt (kl_82 hM1) g275.2⟩ rfl ?_
    refine iq_iconst hS 277 J_MScriptRows_makeField_d276 (v := 0) (by decide +kernel) rfl ?_
    refine iq_iconst hS 278 J_MScriptRows_makeField_d277 (v := 0) (by decide +kernel) rfl ?_
    refine iq_iconst hS 279 J_MScriptRows_makeField_d278 (v := 0) (by decide +kernel) rfl ?_
    refine iq_iload hS 281 J_MScriptRows_makeField_d279 lk_1s rfl ?_
    obtain ⟨Q10, hQ10, h⟩ := bd1_ed h
    refine iq_cwV hS 284 J_MScriptRows_makeField_d281 rfl (pr_inst (vs := [_, _, _, _, _, _, _]) lc_15_161 lT_296 rfl rfl (by decide) (by decide) rfl (Nat.le_of_ble_eq_true rfl) (Nat.le_of_ble_eq_true rfl) (fun _ => Or.inl (pr_b (ka_71 hM1) (by decide) rfl))) (f_MScriptRows_give_ok (dep := dep + 2) hM1 h) rfl ?_
    intro M10 hM10 h
    replace h := hQ10 _ h
    refine iq_aload_n hS 285 J_MScriptRows_makeField_d284 (lk_1r (lk_1r (lk_1r (lk_1r l0 (by decide)) (by decide)) (by decide)) (by decide)) rfl ?_
    refine iq_iload hS 287 J_MScriptRows_makeField_d285 (lk_1i (lk_1i lk_1s (by decide)) (by decide)) rfl ?_
    refine iq_iload hS 289 J_MScriptRows_makeField_d287 (lk_1i lk_1s (by decide)) rfl ?_
    refine iq_aload_n hS 290 J_MScriptRows_makeField_d289 (lk_1r (lk_1r (lk_1r (lk_1r l0 (by decide)) (by decide)) (by decide)) (by decide)) rfl ?_
    refine iq_getR hS 293 J_MScriptRows_makeField_d290 lf_15_44 (Or.inr ⟨_, rfl⟩) (ka_71 hM10) (ra_71_28 hM10) rfl ?_
    refine iq_iload_n hS 294 J_MScriptRows_makeField_d293 (lk_1i (lk_1i (lk_1i lk_1s (by decide)) (by decide)) (by decide)) rfl ?_
    refine iq_iconst hS 295 J_MScriptRows_makeField_d294 (v := 3) (by decide +kernel) rfl ?_
    refine iq_iadd hS 296 J_MScriptRows_makeField_d295 rfl ?_
    obtain ⟨g296, h⟩ := ed_gd h
    refine iq_iaload hS 297 J_MScriptRows_makeField_d296 ⟨(ka_82 hM10).1, (ka_82 hM10).2, g296.1, ix_lt (kl_82 hM10) g296.2⟩ rfl ?_
    obtain ⟨Q11, hQ11, h⟩ := bd1_ed h
    refine iq_cwV hS 300 J_MScriptRows_makeField_d297 rfl (pr_inst (vs := [_, _, _]) lc_15_165 lT_300 rfl rfl (by decide) (by decide) rfl (Nat.le_of_ble_eq_true rfl) (Nat.le_of_ble_eq_true rfl) (fun _ => Or.inl (pr_b (ka_71 hM10) (by decide) rfl))) (f_MScriptRows_have_ok (dep := dep + 4) hM10 h) rfl ?_
    intro M11 hM11 h
    replace h := hQ11 _ h
    refine iq_goto hS J_MScriptRows_makeField_d300 (t := 431) rfl ?_
    exact iq_ret J_MScriptRows_makeField_d431 rfl ⟨rfl, hM11, ed_some h⟩
  replace h := ed_neg q48_3 h
  by_cases q48_7 : (im_i M1 82 (Int32.toNatClampNeg ((16 : Int32) * p0))) = 7
  · replace h := ed_pos q48_7 h
    refine iq_tsw hS J_MScriptRows_makeField_d48 (t := 303) (sw_v q48_7 (by decide +kernel)) ?_
    refine iq_aload_n hS 304 J_MScriptRows_makeField_d303 (lk_1r (lk_1r (lk_1r (lk_1r l0 (by decide)) (by decide)) (by decide)) (by decide)) rfl ?_
    refine iq_iload_n hS 305 J_MScriptRows_makeField_d304 (lk_1i (lk_1i (lk_1i (lk_1i l1 (by decide)) (by decide)) (by decide)) (by decide)) rfl ?_
    refine iq_bipush hS 307 J_MScriptRows_makeField_d305 (v := 7) (by decide +kernel) rfl ?_
    refine iq_iconst hS 308 J_MScriptRows_makeField_d307 (v := 0) (by decide +kernel) rfl ?_
    refine iq_iconst hS 309 J_MScriptRows_makeField_d308 (v := 0) (by decide +kernel) rfl ?_
    refine iq_iconst hS 310 J_MScriptRows_makeField_d309 (v := 0) (by decide +kernel) rfl ?_
    refine iq_iconst hS 311 J_MScriptRows_makeField_d310 (v := 0) (by decide +kernel) rfl ?_
    refine iq_iload hS 313 J_MScriptRows_makeField_d311 lk_1s rfl ?_
    refine iq_iconst hS 314 J_MScriptRows_makeField_d313 (v := 2) (by decide +kernel) rfl ?_
    refine iq_idiv hS 315 J_MScriptRows_makeField_d314 (by decide) rfl ?_
    obtain ⟨Q12, hQ12, h⟩ := bd1_ed h
    refine iq_cwV hS 318 J_MScriptRows_makeField_d315 rfl (pr_inst (vs := [_, _, _, _, _, _, _]) lc_15_161 lT_296 rfl rfl (by decide) (by decide) rfl (Nat.le_of_ble_eq_true rfl) (Nat.le_of_ble_eq_true rfl) (fun _ => Or.inl (pr_b (ka_71 hM1) (by decide) rfl))) (f_MScriptRows_give_ok (dep := dep + 2) hM1 h) rfl ?_
    intro M12 hM12 h
    replace h := hQ12 _ h
    refine iq_aload_n hS 319 J_MScriptRows_makeField_d318 (lk_1r (lk_1r (lk_1r (lk_1r l0 (by decide)) (by decide)) (by decide)) (by decide)) rfl ?_
    refine iq_iload hS 321 J_MScriptRows_makeField_d319 (lk_1i (lk_1i lk_1s (by decide)) (by decide)) rfl ?_
    refine iq_iconst hS 322 J_MScriptRows_makeField_d321 (v := 0) (by decide +kernel) rfl ?_
    refine iq_iconst hS 323 J_MScriptRows_makeField_d322 (v := 0) (by decide +kernel) rfl ?_
    obtain ⟨Q13, hQ13, h⟩ := bd1_ed h
    refine iq_cwV hS 326 J_MScriptRows_makeField_d323 rfl (pr_inst (vs := [_, _, _]) lc_15_165 lT_300 rfl rfl (by decide) (by decide) rfl (Nat.le_of_ble_eq_true rfl) (Nat.le_of_ble_eq_true rfl) (fun _ => Or.inl (pr_b (ka_71 hM12) (by decide) rfl))) (f_MScriptRows_have_ok (dep := dep + 4) hM12 h) rfl ?_
    intro M13 hM13 h
    replace h := hQ13 _ h
    refine iq_goto hS J_MScriptRows_makeField_d326 (t := 431) rfl ?_
    exact iq_ret J_MScriptRows_makeField_d431 rfl ⟨rfl, hM13, ed_some h⟩
  replace h := ed_neg q48_7 h
  by_cases q48_8 : (im_i M1 82 (Int32.toNatClampNeg ((16 : Int32) * p0))) = 8
  · replace h := ed_pos q48_8 h
    refine iq_tsw hS J_MScriptRows_makeField_d48 (t := 329) (sw_v q48_8 (by decide +kernel)) ?_
    refine iq_aload_n hS 330 J_MScriptRows_makeField_d329 (lk_1r (lk_1r (lk_1r (lk_1r l0 (by decide)) (by decide)) (by decide)) (by decide)) rfl ?_
    refine iq_iload_n hS 331 J_MScriptRows_makeField_d330 (lk_1i (lk_1i (lk_1i (lk_1i l1 (by decide)) (by decide)) (by decide)) (by decide)) rfl ?_
    obtain ⟨Q14, hQ14, h⟩ := bd1_ed h
    refine iq_cwV hS 334 J_MScriptRows_makeField_d331 rfl (pr_inst (vs := [_]) lc_15_169 lT_301 rfl rfl (by decide) (by decide) rfl (Nat.le_of_ble_eq_true rfl) (Nat.le_of_ble_eq_true rfl) (fun _ => Or.inl (pr_b (ka_71 hM1) (by decide) rfl))) (f_MScriptRows_makeLines_ok (dep := dep + 0) hM1 h) rfl ?_
    intro M14 hM14 h
    replace h := hQ14 _ h
    refine iq_goto hS J_MScriptRows_makeField_d334 (t := 431) rfl ?_
    exact iq_ret J_MScriptRows_makeField_d431 rfl ⟨rfl, hM14, ed_some h⟩
  replace h := ed_neg q48_8 h
  refine iq_tsw hS J_MScriptRows_makeField_d48 (t := 337) (sw_d [0, 1, 2, 3, 7, 8] (by decide) (by decide) (by decide +kernel) (sw_nc q48_0 (sw_nc q48_1 (sw_nc q48_2 (sw_nc q48_3 (sw_nc q48_7 (sw_nc q48_8 sw_nn))))))) ?_
  refine iq_aload_n hS 338 J_MScriptRows_makeField_d337 (lk_1r (lk_1r (lk_1r (lk_1r l0 (by decide)) (by decide)) (by decide)) (by decide)) rfl ?_
  refine iq_iload_n hS 339 J_MScriptRows_makeField_d338 (lk_1i (lk_1i (lk_1i (lk_1i l1 (by decide)) (by decide)) (by decide)) (by decide)) rfl ?_
  refine iq_aload_n hS 340 J_MScriptRows_makeField_d339 (lk_1r (lk_1r (lk_1r (lk_1r l0 (by decide)) (by decide)) (by decide)) (by decide)) rfl ?_
  refine iq_getR hS 343 J_MScriptRows_makeField_d340 lf_15_44 (Or.inr ⟨_, rfl⟩) (ka_71 hM1) (ra_71_28 hM1) rfl ?_
  refine iq_iload_n hS 344 J_MScriptRows_makeField_d343 (lk_1i (lk_1i (lk_1i lk_1s (by decide)) (by decide)) (by decide)) rfl ?_
  obtain ⟨g344, h⟩ := ed_gd h
  refine iq_iaload hS 345 J_MScriptRows_makeField_d344 ⟨(ka_82 hM1).1, (ka_82 hM1).2, g344.1, ix_lt (kl_82 hM1) g344.2⟩ rfl ?_
  refine iq_iconst hS 346 J_MScriptRows_makeField_d345 (v := 0) (by decide +kernel) rfl ?_
  refine iq_iconst hS 347 J_MScriptRows_makeField_d346 (v := 0) (by decide +kernel) rfl ?_
  refine iq_iconst hS 348 J_MScriptRows_makeField_d347 (v := 0) (by decide +kernel) rfl ?_
  refine iq_iconst hS 349 J_MScriptRows_makeField_d348 (v := 0) (by decide +kernel) rfl ?_
  refine iq_iconst hS 350 J_MScriptRows_makeField_d349 (v := 0) (by decide +kernel) rfl ?_
  obtain ⟨Q15, hQ15, h⟩ := bd1_ed h
  refine iq_cwV hS 353 J_MScriptRows_makeField_d350 rfl (pr_inst (vs := [_, _, _, _, _, _, _]) lc_15_161 lT_296 rfl rfl (by decide) (by decide) rfl (Nat.le_of_ble_eq_true rfl) (Nat.le_of_ble_eq_true rfl) (fun _ => Or.inl (pr_b (ka_71 hM1) (by decide) rfl))) (f_MScriptRows_give_ok (dep := dep + 2) hM1 h) rfl ?_
  intro M15 hM15 h
  replace h := hQ15 _ h
  refine iq_aload_n hS 354 J_MScriptRows_makeField_d353 (lk_1r (lk_1r (lk_1r (lk_1r l0 (by decide)) (by decide)) (by decide)) (by decide)) rfl ?_
  refine iq_iload hS 356 J_MScriptRows_makeField_d354 (lk_1i (lk_1i lk_1s (by decide)) (by decide)) rfl ?_
  refine iq_iload hS 358 J_MScriptRows_makeField_d356 (lk_1i lk_1s (by decide)) rfl ?_
  refine iq_aload_n hS 359 J_MScriptRows_makeField_d358 (lk_1r (lk_1r (lk_1r (lk_1r l0 (by decide)) (by decide)) (by decide)) (by decide)) rfl ?_
  refine iq_getR hS 362 J_MScriptRows_makeField_d359 lf_15_44 (Or.inr ⟨_, rfl⟩) (ka_71 hM15) (ra_71_28 hM15) rfl ?_
  refine iq_iload_n hS 363 J_MScriptRows_makeField_d362 (lk_1i (lk_1i (lk_1i lk_1s (by decide)) (by decide)) (by decide)) rfl ?_
  refine iq_iconst hS 364 J_MScriptRows_makeField_d363 (v := 3) (by decide +kernel) rfl ?_
  refine iq_iadd hS 365 J_MScriptRows_makeField_d364 rfl ?_
  obtain ⟨g365, h⟩ := ed_gd h
  refine iq_iaload hS 366 J_MScriptRows_makeField_d365 ⟨(ka_82 hM15).1, (ka_82 hM15).2, g365.1, ix_lt (kl_82 hM15) g365.2⟩ rfl ?_
  obtain ⟨Q16, hQ16, h⟩ := bd1_ed h
  refine iq_cwV hS 369 J_MScriptRows_makeField_d366 rfl (pr_inst (vs := [_, _, _]) lc_15_165 lT_300 rfl rfl (by decide) (by decide) rfl (Nat.le_of_ble_eq_true rfl) (Nat.le_of_ble_eq_true rfl) (fun _ => Or.inl (pr_b (ka_71 hM15) (by decide) rfl))) (f_MScriptRows_have_ok (dep := dep + 4) hM15 h) rfl ?_
  intro M16 hM16 h
  replace h := hQ16 _ h
  refine iq_aload_n hS 370 J_MScriptRows_makeField_d369 (lk_1r (lk_1r (lk_1r (lk_1r l0 (by decide)) (by decide)) (by decide)) (by decide)) rfl ?_
  refine iq_aload_n hS 371 J_MScriptRows_makeField_d370 (lk_1r (lk_1r (lk_1r (lk_1r l0 (by decide)) (by decide)) (by decide)) (by decide)) rfl ?_
  refine iq_getI hS 374 J_MScriptRows_makeField_d371 lf_15_132 (Or.inr rfl) (ka_71 hM16) rfl ?_
  obtain ⟨Q17, hQ17, h⟩ := bd1_ed h
  have J17 : ∀ (y22 : Int32) (L' : List (Nat × Value)), Q17 y22 → ia (tb_G L xs) (dep + 5) J_MScriptRows_makeField (rwV w Q) (428, L', [.int y22, .ref 71], M16) := by
    intro y22 L'  h
    replace h := hQ17 _ h
    obtain ⟨g428, h⟩ := ed_gd h
    refine iq_putZ hS 431 J_MScriptRows_makeField_d428 lf_15_132 (Or.inl rfl) rfl (ka_71 hM16) g428 rfl ?_
    exact iq_ret J_MScriptRows_makeField_d431 rfl ⟨rfl, hM16, ed_some h⟩
  obtain ⟨k18, Q18, hQ18, hk18, h⟩ := jn0_ed h
  have J18 : ∀  (L' : List (Nat × Value)), Q18 () → ia (tb_G L xs) (dep + 5) J_MScriptRows_makeField (rwV w Q) (423, L', [.ref 71], M16) := by
    intro  L'  h
    replace h := hQ18  h
    refine iq_iconst hS 424 J_MScriptRows_makeField_d423 (v := 1) (by decide +kernel) rfl ?_
    refine iq_goto hS J_MScriptRows_makeField_d424 (t := 428) rfl ?_
    exact J17 _ _  (ed_some h)
  refine iq_if_ne hS 377 J_MScriptRows_makeField_d374 (t := 423) rfl (fun q374 => ?_) rfl (fun q374 => ?_)
  · replace h := ed_pos q374 h
    exact J18  _  (hk18  h)
  · replace h := ed_neg q374 h
    refine iq_aload_n hS 378 J_MScriptRows_makeField_d377 (lk_1r (lk_1r (lk_1r (lk_1r l0 (by decide)) (by decide)) (by decide)) (by decide)) rfl ?_
    refine iq_getR hS 381 J_MScriptRows_makeField_d378 lf_15_44 (Or.inr ⟨_, rfl⟩) (ka_71 hM16) (ra_71_28 hM16) rfl ?_
    refine iq_iload_n hS 382 J_MScriptRows_makeField_d381 (lk_1i (lk_1i (lk_1i lk_1s (by decide)) (by decide)) (by decide)) rfl ?_
    obtain ⟨g382, h⟩ := ed_gd h
    refine iq_iaload hS 383 J_MScriptRows_makeField_d382 ⟨(ka_82 hM16).1, (ka_82 hM16).2, g382.1, ix_lt (kl_82 hM16) g382.2⟩ rfl ?_
    refine iq_bipush hS 385 J_MScriptRows_makeField_d383 (v := 6) (by decide +kernel) rfl ?_
    obtain ⟨k19, Q19, hQ19, hk19, h⟩ := jn0_ed h
    have J19 : ∀  (L' : List (Nat × Value)), Q19 () → ia (tb_G L xs) (dep + 5) J_MScriptRows_makeField (rwV w Q) (427, L', [.ref 71], M16) := by
      intro  L'  h
      replace h := hQ19  h
      refine iq_iconst hS 428 J_MScriptRows_makeField_d427 (v := 0) (by decide +kernel) rfl ?_
      exact J17 _ _  (ed_some h)
    refine iq_icmp_ne hS 388 J_MScriptRows_makeField_d385 (t := 427) rfl (fun q385 => ?_) rfl (fun q385 => ?_)
    · replace h := ed_pos q385 h
      exact J19  _  (hk19  h)
    · replace h := ed_neg q385 h
      refine iq_aload_n hS 389 J_MScriptRows_makeField_d388 (lk_1r (lk_1r (lk_1r (lk_1r l0 (by decide)) (by decide)) (by decide)) (by decide)) rfl ?_
      refine iq_getR hS 392 J_MScriptRows_makeField_d389 lf_15_44 (Or.inr ⟨_, rfl⟩) (ka_71 hM16) (ra_71_28 hM16) rfl ?_
      refine iq_iload_n hS 393 J_MScriptRows_makeField_d392 (lk_1i (lk_1i (lk_1i lk_1s (by decide)) (by decide)) (by decide)) rfl ?_
      refine iq_iconst hS 394 J_MScriptRows_makeField_d393 (v := 5) (by decide +kernel) rfl ?_
      refine iq_iadd hS 395 J_MScriptRows_makeField_d394 rfl ?_
      obtain ⟨g395, h⟩ := ed_gd h
      refine iq_iaload hS 396 J_MScriptRows_makeField_d395 ⟨(ka_82 hM16).1, (ka_82 hM16).2, g395.1, ix_lt (kl_82 hM16) g395.2⟩ rfl ?_
      refine iq_iload hS 398 J_MScriptRows_makeField_d396 (lk_1i (lk_1i lk_1s (by decide)) (by decide)) rfl ?_
      refine iq_iadd hS 399 J_MScriptRows_makeField_d398 rfl ?_
      obtain ⟨Q20, hQ20, h⟩ := bd1_ed h
      refine iq_cpI hS 402 J_MScriptRows_makeField_d399 rfl (pr_stat (vs := [_]) lc_15_152 lT_299 rfl rfl (by decide) rfl (Nat.le_of_ble_eq_true rfl) (Nat.le_of_ble_eq_true rfl)) (f_MScriptRows_isFar_ok (dep := dep + 4) hM16 h) rfl ?_
      intro x20 h
      replace h := hQ20 _ h
      refine iq_if_ne hS 405 J_MScriptRows_makeField_d402 (t := 423) rfl (fun q402 => ?_) rfl (fun q402 => ?_)
      · replace h := ed_pos q402 h
        exact J18  _  (hk18  h)
      · replace h := ed_neg q402 h
        refine iq_aload_n hS 406 J_MScriptRows_makeField_d405 (lk_1r (lk_1r (lk_1r (lk_1r l0 (by decide)) (by decide)) (by decide)) (by decide)) rfl ?_
        refine iq_getR hS 409 J_MScriptRows_makeField_d406 lf_15_44 (Or.inr ⟨_, rfl⟩) (ka_71 hM16) (ra_71_28 hM16) rfl ?_
        refine iq_iload_n hS 410 J_MScriptRows_makeField_d409 (lk_1i (lk_1i (lk_1i lk_1s (by decide)) (by decide)) (by decide)) rfl ?_
        refine iq_bipush hS 412 J_MScriptRows_makeField_d410 (v := 6) (by decide +kernel) rfl ?_
        refine iq_iadd hS 413 J_MScriptRows_makeField_d412 rfl ?_
        obtain ⟨g413, h⟩ := ed_gd h
        refine iq_iaload hS 414 J_MScriptRows_makeField_d413 ⟨(ka_82 hM16).1, (ka_82 hM16).2, g413.1, ix_lt (kl_82 hM16) g413.2⟩ rfl ?_
        refine iq_iload hS 416 J_MScriptRows_makeField_d414 (lk_1i lk_1s (by decide)) rfl ?_
        refine iq_iadd hS 417 J_MScriptRows_makeField_d416 rfl ?_
        obtain ⟨Q21, hQ21, h⟩ := bd1_ed h
        refine iq_cpI hS 420 J_MScriptRows_makeField_d417 rfl (pr_stat (vs := [_]) lc_15_152 lT_299 rfl rfl (by decide) rfl (Nat.le_of_ble_eq_true rfl) (Nat.le_of_ble_eq_true rfl)) (f_MScriptRows_isFar_ok (dep := dep + 4) hM16 h) rfl ?_
        intro x21 h
        replace h := hQ21 _ h
        refine iq_if_eq hS 423 J_MScriptRows_makeField_d420 (t := 427) rfl (fun q420 => ?_) rfl (fun q420 => ?_)
        · replace h := ed_pos q420 h
          exact J19  _  (hk19  h)
        · replace h := ed_neg q420 h
          exact J18  _  (hk18  h)
noncomputable def f_MScriptRows_isPlaced (p0 : Int32) (M : im_M) : Option (Int32 × im_M) := bd1 (f_MScriptRows_lay M) fun (M1 : im_M) => bd1 (f_MScriptRows_makeField p0 0 (im_setI (im_setI M1 71 32 0) 71 33 0)) fun (M2 : im_M) => gd (inb 0 16) <| bd1 (if ¬ (im_i M2 81 (Int32.toNatClampNeg 0)) = 8 then some M2 else if ((im_i M2 71 26) - (im_i (im_setI (im_setI M1 71 32 0) 71 33 0) 71 26)) ≤ 20 then some M2 else some (im_setI M2 71 32 1)) fun (M4 : im_M) => if ¬ (im_i (im_setI (im_setI M4 71 34 ((im_i M4 71 26) - (im_i (im_setI (im_setI M1 71 32 0) 71 33 0) 71 26))) 71 26 (im_i (im_setI (im_setI M1 71 32 0) 71 33 0) 71 26)) 71 32) = 0 then some (0, (im_setI (im_setI M4 71 34 ((im_i M4 71 26) - (im_i (im_setI (im_setI M1 71 32 0) 71 33 0) 71 26))) 71 26 (im_i (im_setI (im_setI M1 71 32 0) 71 33 0) 71 26))) else some (1, (im_setI (im_setI M4 71 34 ((im_i M4 71 26) - (im_i (im_setI (im_setI M1 71 32 0) 71 33 0) 71 26))) 71 26 (im_i (im_setI (im_setI M1 71 32 0) 71 33 0) 71 26)))
theorem J_MScriptRows_isPlaced_d0 : decode J_MScriptRows_isPlaced.2.1 0 = .ok (.aload_n 0, 1) := by decide +kernel
theorem J_MScriptRows_isPlaced_d1 : decode J_MScriptRows_isPlaced.2.1 1 = .ok (.invokevirtual 129, 3) := by decide +kernel
theorem J_MScriptRows_isPlaced_d4 : decode J_MScriptRows_isPlaced.2.1 4 = .ok (.aload_n 0, 1) := by decide +kernel
theorem J_MScriptRows_isPlaced_d5 : decode J_MScriptRows_isPlaced.2.1 5 = .ok (.iconst 0, 1) := by decide +kernel
theorem J_MScriptRows_isPlaced_d6 : decode J_MScriptRows_isPlaced.2.1 6 = .ok (.putfield 132, 3) := by decide +kernel
theorem J_MScriptRows_isPlaced_d9 : decode J_MScriptRows_isPlaced.2.1 9 = .ok (.aload_n 0, 1) := by decide +kernel
theorem J_MScriptRows_isPlaced_d10 : decode J_MScriptRows_isPlaced.2.1 10 = .ok (.iconst 0, 1) := by decide +kernel
theorem J_MScriptRows_isPlaced_d11 : decode J_MScriptRows_isPlaced.2.1 11 = .ok (.putfield 136, 3) := by decide +kernel
theorem J_MScriptRows_isPlaced_d14 : decode J_MScriptRows_isPlaced.2.1 14 = .ok (.aload_n 0, 1) := by decide +kernel
theorem J_MScriptRows_isPlaced_d15 : decode J_MScriptRows_isPlaced.2.1 15 = .ok (.getfield 123, 3) := by decide +kernel
theorem J_MScriptRows_isPlaced_d18 : decode J_MScriptRows_isPlaced.2.1 18 = .ok (.istore_n 2, 1) := by decide +kernel
theorem J_MScriptRows_isPlaced_d19 : decode J_MScriptRows_isPlaced.2.1 19 = .ok (.aload_n 0, 1) := by decide +kernel
theorem J_MScriptRows_isPlaced_d20 : decode J_MScriptRows_isPlaced.2.1 20 = .ok (.iload_n 1, 1) := by decide +kernel
theorem J_MScriptRows_isPlaced_d21 : decode J_MScriptRows_isPlaced.2.1 21 = .ok (.iconst 0, 1) := by decide +kernel
theorem J_MScriptRows_isPlaced_d22 : decode J_MScriptRows_isPlaced.2.1 22 = .ok (.invokevirtual 139, 3) := by decide +kernel
theorem J_MScriptRows_isPlaced_d25 : decode J_MScriptRows_isPlaced.2.1 25 = .ok (.aload_n 0, 1) := by decide +kernel
theorem J_MScriptRows_isPlaced_d26 : decode J_MScriptRows_isPlaced.2.1 26 = .ok (.getfield 41, 3) := by decide +kernel
theorem J_MScriptRows_isPlaced_d29 : decode J_MScriptRows_isPlaced.2.1 29 = .ok (.iconst 0, 1) := by decide +kernel
theorem J_MScriptRows_isPlaced_d30 : decode J_MScriptRows_isPlaced.2.1 30 = .ok (.iaload, 1) := by decide +kernel
theorem J_MScriptRows_isPlaced_d31 : decode J_MScriptRows_isPlaced.2.1 31 = .ok (.bipush 8, 2) := by decide +kernel
theorem J_MScriptRows_isPlaced_d33 : decode J_MScriptRows_isPlaced.2.1 33 = .ok (.if_icmp .ne 19, 3) := by decide +kernel
theorem J_MScriptRows_isPlaced_d36 : decode J_MScriptRows_isPlaced.2.1 36 = .ok (.aload_n 0, 1) := by decide +kernel
theorem J_MScriptRows_isPlaced_d37 : decode J_MScriptRows_isPlaced.2.1 37 = .ok (.getfield 123, 3) := by decide +kernel
theorem J_MScriptRows_isPlaced_d40 : decode J_MScriptRows_isPlaced.2.1 40 = .ok (.iload_n 2, 1) := by decide +kernel
theorem J_MScriptRows_isPlaced_d41 : decode J_MScriptRows_isPlaced.2.1 41 = .ok (.isub, 1) := by decide +kernel
theorem J_MScriptRows_isPlaced_d42 : decode J_MScriptRows_isPlaced.2.1 42 = .ok (.bipush 20, 2) := by decide +kernel
theorem J_MScriptRows_isPlaced_d44 : decode J_MScriptRows_isPlaced.2.1 44 = .ok (.if_icmp .le 8, 3) := by decide +kernel
theorem J_MScriptRows_isPlaced_d47 : decode J_MScriptRows_isPlaced.2.1 47 = .ok (.aload_n 0, 1) := by decide +kernel
theorem J_MScriptRows_isPlaced_d48 : decode J_MScriptRows_isPlaced.2.1 48 = .ok (.iconst 1, 1) := by decide +kernel
theorem J_MScriptRows_isPlaced_d49 : decode J_MScriptRows_isPlaced.2.1 49 = .ok (.putfield 132, 3) := by decide +kernel
theorem J_MScriptRows_isPlaced_d52 : decode J_MScriptRows_isPlaced.2.1 52 = .ok (.aload_n 0, 1) := by decide +kernel
theorem J_MScriptRows_isPlaced_d53 : decode J_MScriptRows_isPlaced.2.1 53 = .ok (.aload_n 0, 1) := by decide +kernel
theorem J_MScriptRows_isPlaced_d54 : decode J_MScriptRows_isPlaced.2.1 54 = .ok (.getfield 123, 3) := by decide +kernel
theorem J_MScriptRows_isPlaced_d57 : decode J_MScriptRows_isPlaced.2.1 57 = .ok (.iload_n 2, 1) := by decide +kernel
theorem J_MScriptRows_isPlaced_d58 : decode J_MScriptRows_isPlaced.2.1 58 = .ok (.isub, 1) := by decide +kernel
theorem J_MScriptRows_isPlaced_d59 : decode J_MScriptRows_isPlaced.2.1 59 = .ok (.putfield 126, 3) := by decide +kernel
theorem J_MScriptRows_isPlaced_d62 : decode J_MScriptRows_isPlaced.2.1 62 = .ok (.aload_n 0, 1) := by decide +kernel
theorem J_MScriptRows_isPlaced_d63 : decode J_MScriptRows_isPlaced.2.1 63 = .ok (.iload_n 2, 1) := by decide +kernel
theorem J_MScriptRows_isPlaced_d64 : decode J_MScriptRows_isPlaced.2.1 64 = .ok (.putfield 123, 3) := by decide +kernel
theorem J_MScriptRows_isPlaced_d67 : decode J_MScriptRows_isPlaced.2.1 67 = .ok (.aload_n 0, 1) := by decide +kernel
theorem J_MScriptRows_isPlaced_d68 : decode J_MScriptRows_isPlaced.2.1 68 = .ok (.getfield 132, 3) := by decide +kernel
theorem J_MScriptRows_isPlaced_d71 : decode J_MScriptRows_isPlaced.2.1 71 = .ok (.ifCond .ne 7, 3) := by decide +kernel
theorem J_MScriptRows_isPlaced_d74 : decode J_MScriptRows_isPlaced.2.1 74 = .ok (.iconst 1, 1) := by decide +kernel
theorem J_MScriptRows_isPlaced_d75 : decode J_MScriptRows_isPlaced.2.1 75 = .ok (.goto 4, 3) := by decide +kernel
theorem J_MScriptRows_isPlaced_d78 : decode J_MScriptRows_isPlaced.2.1 78 = .ok (.iconst 0, 1) := by decide +kernel
theorem J_MScriptRows_isPlaced_d79 : decode J_MScriptRows_isPlaced.2.1 79 = .ok (.ireturn, 1) := by decide +kernel
theorem f_MScriptRows_isPlaced_ok {L : Nat} {xs : Nat → Int32} {dep : Nat} {w : Bool} {p0 : Int32} {M : im_M} {Q : Int32 × im_M → Prop} (hM : lw_S w M) (h : ed (f_MScriptRows_isPlaced p0 M) Q) : ia (tb_G L xs) (dep + 6) J_MScriptRows_isPlaced (rwI w Q) (0, lv_args 0 [.ref 71, .int p0], [], M) := by
  have hS : im_St (tb_G L xs) (dep + 6) J_MScriptRows_isPlaced (ia (tb_G L xs) (dep + 6) J_MScriptRows_isPlaced (rwI w Q)) := ia_St
  unfold f_MScriptRows_isPlaced at h
  have l0 : im_lk (lv_args 0 [.ref 71, .int p0]) 0 = some (.ref 71) := rfl
  have l1 : im_lk (lv_args 0 [.ref 71, .int p0]) 1 = some (.int p0) := rfl
  refine iq_aload_n hS 1 J_MScriptRows_isPlaced_d0 l0 rfl ?_
  obtain ⟨Q1, hQ1, h⟩ := bd1_ed h
  refine iq_cwV hS 4 J_MScriptRows_isPlaced_d1 rfl (pr_inst (vs := []) lc_15_129 lT_293 rfl rfl (by decide) (by decide) rfl (Nat.le_of_ble_eq_true rfl) (Nat.le_of_ble_eq_true rfl) (fun _ => Or.inl (pr_b (ka_71 hM) (by decide) rfl))) (f_MScriptRows_lay_ok (dep := dep + 5) hM h) rfl ?_
  intro M1 hM1 h
  replace h := hQ1 _ h
  refine iq_aload_n hS 5 J_MScriptRows_isPlaced_d4 l0 rfl ?_
  refine iq_iconst hS 6 J_MScriptRows_isPlaced_d5 (v := 0) (by decide +kernel) rfl ?_
  refine iq_putZ hS 9 J_MScriptRows_isPlaced_d6 lf_15_132 (Or.inl rfl) rfl (ka_71 hM1) (Or.inl rfl) rfl ?_
  refine iq_aload_n hS 10 J_MScriptRows_isPlaced_d9 l0 rfl ?_
  refine iq_iconst hS 11 J_MScriptRows_isPlaced_d10 (v := 0) (by decide +kernel) rfl ?_
  refine iq_putZ hS 14 J_MScriptRows_isPlaced_d11 lf_15_136 (Or.inl rfl) rfl (ka_71 hM1) (Or.inl rfl) rfl ?_
  refine iq_aload_n hS 15 J_MScriptRows_isPlaced_d14 l0 rfl ?_
  refine iq_getI hS 18 J_MScriptRows_isPlaced_d15 lf_15_123 (Or.inl rfl) (ka_71 hM1) rfl ?_
  refine iq_istore_n hS 19 J_MScriptRows_isPlaced_d18 (by decide) rfl ?_
  refine iq_aload_n hS 20 J_MScriptRows_isPlaced_d19 (lk_1r l0 (by decide)) rfl ?_
  refine iq_iload_n hS 21 J_MScriptRows_isPlaced_d20 (lk_1i l1 (by decide)) rfl ?_
  refine iq_iconst hS 22 J_MScriptRows_isPlaced_d21 (v := 0) (by decide +kernel) rfl ?_
  obtain ⟨Q2, hQ2, h⟩ := bd1_ed h
  refine iq_cwV hS 25 J_MScriptRows_isPlaced_d22 rfl (pr_inst (vs := [_, _]) lc_15_139 lT_294 rfl rfl (by decide) (by decide) rfl (Nat.le_of_ble_eq_true rfl) (Nat.le_of_ble_eq_true rfl) (fun _ => Or.inl (pr_b (ka_71 hM1) (by decide) rfl))) (f_MScriptRows_makeField_ok (dep := dep + 0) hM1 h) rfl ?_
  intro M2 hM2 h
  replace h := hQ2 _ h
  refine iq_aload_n hS 26 J_MScriptRows_isPlaced_d25 (lk_1r l0 (by decide)) rfl ?_
  refine iq_getR hS 29 J_MScriptRows_isPlaced_d26 lf_15_41 (Or.inr ⟨_, rfl⟩) (ka_71 hM2) (ra_71_27 hM2) rfl ?_
  refine iq_iconst hS 30 J_MScriptRows_isPlaced_d29 (v := 0) (by decide +kernel) rfl ?_
  obtain ⟨g30, h⟩ := ed_gd h
  refine iq_iaload hS 31 J_MScriptRows_isPlaced_d30 ⟨(ka_81 hM2).1, (ka_81 hM2).2, g30.1, ix_lt (kl_81 hM2) g30.2⟩ rfl ?_
  refine iq_bipush hS 33 J_MScriptRows_isPlaced_d31 (v := 8) (by decide +kernel) rfl ?_
  obtain ⟨Q3, hQ3, h⟩ := bd1_ed h
  have J3 : ∀ (M4 : im_M) (L' : List (Nat × Value)), lw_S w M4 → im_lk L' 0 = some (.ref 71) → im_lk L' 2 = some (.int (im_i (im_setI (im_setI M1 71 32 0) 71 33 0) 71 26)) → Q3 M4 → ia (tb_G L xs) (dep + 6) J_MScriptRows_isPlaced (rwI w Q) (52, L', [], M4) := by
    intro M4 L' hM4 l5 l6 h
    replace h := hQ3 _ h
    refine iq_aload_n hS 53 J_MScriptRows_isPlaced_d52 l5 rfl ?_
    refine iq_aload_n hS 54 J_MScriptRows_isPlaced_d53 l5 rfl ?_
    refine iq_getI hS 57 J_MScriptRows_isPlaced_d54 lf_15_123 (Or.inl rfl) (ka_71 hM4) rfl ?_
    refine iq_iload_n hS 58 J_MScriptRows_isPlaced_d57 l6 rfl ?_
    refine iq_isub hS 59 J_MScriptRows_isPlaced_d58 rfl ?_
    refine iq_putI hS 62 J_MScriptRows_isPlaced_d59 lf_15_126 (Or.inl rfl) rfl (ka_71 hM4) rfl ?_
    refine iq_aload_n hS 63 J_MScriptRows_isPlaced_d62 l5 rfl ?_
    refine iq_iload_n hS 64 J_MScriptRows_isPlaced_d63 l6 rfl ?_
    refine iq_putI hS 67 J_MScriptRows_isPlaced_d64 lf_15_123 (Or.inl rfl) rfl (ka_71 hM4) rfl ?_
    refine iq_aload_n hS 68 J_MScriptRows_isPlaced_d67 l5 rfl ?_
    refine iq_getI hS 71 J_MScriptRows_isPlaced_d68 lf_15_132 (Or.inr rfl) (ka_71 hM4) rfl ?_
    refine iq_if_ne hS 74 J_MScriptRows_isPlaced_d71 (t := 78) rfl (fun q71 => ?_) rfl (fun q71 => ?_)
    · replace h := ed_pos q71 h
      refine iq_iconst hS 79 J_MScriptRows_isPlaced_d78 (v := 0) (by decide +kernel) rfl ?_
      exact iq_iret J_MScriptRows_isPlaced_d79 rfl rfl ⟨_, rfl, hM4, ed_some h⟩
    · replace h := ed_neg q71 h
      refine iq_iconst hS 75 J_MScriptRows_isPlaced_d74 (v := 1) (by decide +kernel) rfl ?_
      refine iq_goto hS J_MScriptRows_isPlaced_d75 (t := 79) rfl ?_
      exact iq_iret J_MScriptRows_isPlaced_d79 rfl rfl ⟨_, rfl, hM4, ed_some h⟩
  refine iq_icmp_ne hS 36 J_MScriptRows_isPlaced_d33 (t := 52) rfl (fun q33 => ?_) rfl (fun q33 => ?_)
  · replace h := ed_pos q33 h
    exact J3 _ _ hM2 (lk_1r l0 (by decide)) lk_1s (ed_some h)
  · replace h := ed_neg q33 h
    refine iq_aload_n hS 37 J_MScriptRows_isPlaced_d36 (lk_1r l0 (by decide)) rfl ?_
    refine iq_getI hS 40 J_MScriptRows_isPlaced_d37 lf_15_123 (Or.inl rfl) (ka_71 hM2) rfl ?_
    refine iq_iload_n hS 41 J_MScriptRows_isPlaced_d40 lk_1s rfl ?_
    refine iq_isub hS 42 J_MScriptRows_isPlaced_d41 rfl ?_
    refine iq_bipush hS 44 J_MScriptRows_isPlaced_d42 (v := 20) (by decide +kernel) rfl ?_
    refine iq_icmp_le hS 47 J_MScriptRows_isPlaced_d44 (t := 52) rfl (fun q44 => ?_) rfl (fun q44 => ?_)
    · replace h := ed_pos q44 h
      exact J3 _ _ hM2 (lk_1r l0 (by decide)) lk_1s (ed_some h)
    · replace h := ed_neg q44 h
      refine iq_aload_n hS 48 J_MScriptRows_isPlaced_d47 (lk_1r l0 (by decide)) rfl ?_
      refine iq_iconst hS 49 J_MScriptRows_isPlaced_d48 (v := 1) (by decide +kernel) rfl ?_
      refine iq_putZ hS 52 J_MScriptRows_isPlaced_d49 lf_15_132 (Or.inl rfl) rfl (ka_71 hM2) (Or.inr rfl) rfl ?_
      exact J3 _ _ hM2 (lk_1r l0 (by decide)) lk_1s (ed_some h)
noncomputable def f_MScriptRows_tryField (M : im_M) : Option (Int32 × im_M) := bd1 (f_MScriptRows_fits M) fun (x1 : Int32) => jn1 (fun (M4 : im_M) => some (8, M4)) fun k2 => if x1 = 0 then k2 M else bd2 (f_MScriptRows_isPlaced (im_i M 71 25) M) fun (x3 : Int32) (M3 : im_M) => if ¬ x3 = 0 then if ((im_i M3 71 26) + (im_i M3 71 34)) ≤ 120 then some (0, M3) else some (10, M3) else k2 M3
theorem J_MScriptRows_tryField_d0 : decode J_MScriptRows_tryField.2.1 0 = .ok (.aload_n 0, 1) := by decide +kernel
theorem J_MScriptRows_tryField_d1 : decode J_MScriptRows_tryField.2.1 1 = .ok (.invokevirtual 116, 3) := by decide +kernel
theorem J_MScriptRows_tryField_d4 : decode J_MScriptRows_tryField.2.1 4 = .ok (.ifCond .eq 14, 3) := by decide +kernel
theorem J_MScriptRows_tryField_d7 : decode J_MScriptRows_tryField.2.1 7 = .ok (.aload_n 0, 1) := by decide +kernel
theorem J_MScriptRows_tryField_d8 : decode J_MScriptRows_tryField.2.1 8 = .ok (.aload_n 0, 1) := by decide +kernel
theorem J_MScriptRows_tryField_d9 : decode J_MScriptRows_tryField.2.1 9 = .ok (.getfield 113, 3) := by decide +kernel
theorem J_MScriptRows_tryField_d12 : decode J_MScriptRows_tryField.2.1 12 = .ok (.invokevirtual 120, 3) := by decide +kernel
theorem J_MScriptRows_tryField_d15 : decode J_MScriptRows_tryField.2.1 15 = .ok (.ifCond .ne 8, 3) := by decide +kernel
theorem J_MScriptRows_tryField_d18 : decode J_MScriptRows_tryField.2.1 18 = .ok (.bipush 8, 2) := by decide +kernel
theorem J_MScriptRows_tryField_d20 : decode J_MScriptRows_tryField.2.1 20 = .ok (.goto 23, 3) := by decide +kernel
theorem J_MScriptRows_tryField_d23 : decode J_MScriptRows_tryField.2.1 23 = .ok (.aload_n 0, 1) := by decide +kernel
theorem J_MScriptRows_tryField_d24 : decode J_MScriptRows_tryField.2.1 24 = .ok (.getfield 123, 3) := by decide +kernel
theorem J_MScriptRows_tryField_d27 : decode J_MScriptRows_tryField.2.1 27 = .ok (.aload_n 0, 1) := by decide +kernel
theorem J_MScriptRows_tryField_d28 : decode J_MScriptRows_tryField.2.1 28 = .ok (.getfield 126, 3) := by decide +kernel
theorem J_MScriptRows_tryField_d31 : decode J_MScriptRows_tryField.2.1 31 = .ok (.iadd, 1) := by decide +kernel
theorem J_MScriptRows_tryField_d32 : decode J_MScriptRows_tryField.2.1 32 = .ok (.bipush 120, 2) := by decide +kernel
theorem J_MScriptRows_tryField_d34 : decode J_MScriptRows_tryField.2.1 34 = .ok (.if_icmp .le 8, 3) := by decide +kernel
theorem J_MScriptRows_tryField_d37 : decode J_MScriptRows_tryField.2.1 37 = .ok (.bipush 10, 2) := by decide +kernel
theorem J_MScriptRows_tryField_d39 : decode J_MScriptRows_tryField.2.1 39 = .ok (.goto 4, 3) := by decide +kernel
theorem J_MScriptRows_tryField_d42 : decode J_MScriptRows_tryField.2.1 42 = .ok (.iconst 0, 1) := by decide +kernel
theorem J_MScriptRows_tryField_d43 : decode J_MScriptRows_tryField.2.1 43 = .ok (.ireturn, 1) := by decide +kernel
theorem f_MScriptRows_tryField_ok {L : Nat} {xs : Nat → Int32} {dep : Nat} {w : Bool} {M : im_M} {Q : Int32 × im_M → Prop} (hM : lw_S w M) (h : ed (f_MScriptRows_tryField M) Q) : ia (tb_G L xs) (dep + 7) J_MScriptRows_tryField (rwI w Q) (0, lv_args 0 [.ref 71], [], M) := by
  have hS : im_St (tb_G L xs) (dep + 7) J_MScriptRows_tryField (ia (tb_G L xs) (dep + 7) J_MScriptRows_tryField (rwI w Q)) := ia_St
  unfold f_MScriptRows_tryField at h
  have l0 : im_lk (lv_args 0 [.ref 71]) 0 = some (.ref 71) := rfl
  refine iq_aload_n hS 1 J_MScriptRows_tryField_d0 l0 rfl ?_
  obtain ⟨Q1, hQ1, h⟩ := bd1_ed h
  refine iq_cpI hS 4 J_MScriptRows_tryField_d1 rfl (pr_inst (vs := []) lc_15_116 lT_291 rfl rfl (by decide) (by decide) rfl (Nat.le_of_ble_eq_true rfl) (Nat.le_of_ble_eq_true rfl) (fun _ => Or.inl (pr_b (ka_71 hM) (by decide) rfl))) (f_MScriptRows_fits_ok (dep := dep + 4) hM h) rfl ?_
  intro x1 h
  replace h := hQ1 _ h
  obtain ⟨k2, Q2, hQ2, hk2, h⟩ := jn1_ed h
  have J2 : ∀ (M4 : im_M) (L' : List (Nat × Value)), lw_S w M4 → Q2 M4 → ia (tb_G L xs) (dep + 7) J_MScriptRows_tryField (rwI w Q) (18, L', [], M4) := by
    intro M4 L' hM4  h
    replace h := hQ2 _ h
    refine iq_bipush hS 20 J_MScriptRows_tryField_d18 (v := 8) (by decide +kernel) rfl ?_
    refine iq_goto hS J_MScriptRows_tryField_d20 (t := 43) rfl ?_
    exact iq_iret J_MScriptRows_tryField_d43 rfl rfl ⟨_, rfl, hM4, ed_some h⟩
  refine iq_if_eq hS 7 J_MScriptRows_tryField_d4 (t := 18) rfl (fun q4 => ?_) rfl (fun q4 => ?_)
  · replace h := ed_pos q4 h
    exact J2 _ _ hM  (hk2 _ h)
  · replace h := ed_neg q4 h
    refine iq_aload_n hS 8 J_MScriptRows_tryField_d7 l0 rfl ?_
    refine iq_aload_n hS 9 J_MScriptRows_tryField_d8 l0 rfl ?_
    refine iq_getI hS 12 J_MScriptRows_tryField_d9 lf_15_113 (Or.inl rfl) (ka_71 hM) rfl ?_
    obtain ⟨Q3, hQ3, h⟩ := bd2_ed h
    refine iq_cwI hS 15 J_MScriptRows_tryField_d12 rfl (pr_inst (vs := [_]) lc_15_120 lT_292 rfl rfl (by decide) (by decide) rfl (Nat.le_of_ble_eq_true rfl) (Nat.le_of_ble_eq_true rfl) (fun _ => Or.inl (pr_b (ka_71 hM) (by decide) rfl))) (f_MScriptRows_isPlaced_ok (dep := dep + 0) hM h) rfl ?_
    intro x3 M3 hM3 h
    replace h := hQ3 _ _ h
    refine iq_if_ne hS 18 J_MScriptRows_tryField_d15 (t := 23) rfl (fun q15 => ?_) rfl (fun q15 => ?_)
    · replace h := ed_pos q15 h
      refine iq_aload_n hS 24 J_MScriptRows_tryField_d23 l0 rfl ?_
      refine iq_getI hS 27 J_MScriptRows_tryField_d24 lf_15_123 (Or.inl rfl) (ka_71 hM3) rfl ?_
      refine iq_aload_n hS 28 J_MScriptRows_tryField_d27 l0 rfl ?_
      refine iq_getI hS 31 J_MScriptRows_tryField_d28 lf_15_126 (Or.inl rfl) (ka_71 hM3) rfl ?_
      refine iq_iadd hS 32 J_MScriptRows_tryField_d31 rfl ?_
      refine iq_bipush hS 34 J_MScriptRows_tryField_d32 (v := 120) (by decide +kernel) rfl ?_
      refine iq_icmp_le hS 37 J_MScriptRows_tryField_d34 (t := 42) rfl (fun q34 => ?_) rfl (fun q34 => ?_)
      · replace h := ed_pos q34 h
        refine iq_iconst hS 43 J_MScriptRows_tryField_d42 (v := 0) (by decide +kernel) rfl ?_
        exact iq_iret J_MScriptRows_tryField_d43 rfl rfl ⟨_, rfl, hM3, ed_some h⟩
      · replace h := ed_neg q34 h
        refine iq_bipush hS 39 J_MScriptRows_tryField_d37 (v := 10) (by decide +kernel) rfl ?_
        refine iq_goto hS J_MScriptRows_tryField_d39 (t := 43) rfl ?_
        exact iq_iret J_MScriptRows_tryField_d43 rfl rfl ⟨_, rfl, hM3, ed_some h⟩
    · replace h := ed_neg q15 h
      exact J2 _ _ hM3  (hk2 _ h)
noncomputable def f_MScriptRows_test (p0 : Int32) (M : im_M) : Option (Int32 × im_M) := bd1 (f_MScriptRows_numbers p0 M) fun (x1 : Int32) => if 0 ≤ x1 then bd1 (f_MScriptRows_mayStand p0 M) fun (x2 : Int32) => if ¬ x2 = 0 then bd2 (f_MScriptRows_takeNumbers p0 M) fun (x3 : Int32) (M3 : im_M) => bd1 (if ¬ x3 = 0 then some x3 else bd1 (f_MScriptRows_testRanges p0 M3) fun (x5 : Int32) => some x5) fun (y6 : Int32) => bd2 (if ¬ y6 = 0 then some (y6, M3) else jn0 (fun (_ : Unit) => bd2 (f_MScriptRows_takeData M3) fun (x13 : Int32) (M13 : im_M) => some (x13, M13)) fun k10 => if p0 = 88 then k10 () else if ¬ p0 = 75 then some (y6, M3) else k10 ()) fun (y14 : Int32) (M15 : im_M) => bd1 (if ¬ y14 = 0 then some y14 else if ¬ p0 = 83 then some y14 else bd1 (f_MScriptRows_formSize M15) fun (x20 : Int32) => jn0 (fun (_ : Unit) => some 7) fun k21 => if x20 < 0 then k21 () else bd1 (f_MScriptRows_formSize M15) fun (x22 : Int32) => if x22 ≤ 400 then some y14 else k21 ()) fun (y25 : Int32) => bd2 (if ¬ y25 = 0 then some (y25, M15) else if ¬ p0 = 59 then some (y25, M15) else bd2 (f_MScriptRows_tryField M15) fun (x30 : Int32) (M30 : im_M) => some (x30, M30)) fun (y31 : Int32) (M32 : im_M) => bd1 (if ¬ y31 = 0 then some y31 else if ¬ p0 = 85 then some y31 else gd (inb 0 4) <| gd (inb (im_i M32 78 (Int32.toNatClampNeg 0)) 8) <| jn0 (fun (_ : Unit) => some 9) fun k37 => if (im_i M32 74 (Int32.toNatClampNeg (im_i M32 78 (Int32.toNatClampNeg 0)))) = 0 then k37 () else if ¬ (im_i M32 71 9) = 4 then some y31 else k37 ()) fun (y40 : Int32) => if ¬ ((if ¬ y40 = 0 then y40 else (if ¬ p0 = 69 then y40 else (if 12 < ((im_i M32 71 35) + (im_i M32 71 21)) then 10 else (if ((im_i M32 71 37) + ((im_i M32 71 21) * (im_i M32 71 26))) ≤ 120 then y40 else 10)))) : Int32) = 0 then some (((if ¬ y40 = 0 then y40 else (if ¬ p0 = 69 then y40 else (if 12 < ((im_i M32 71 35) + (im_i M32 71 21)) then 10 else (if ((im_i M32 71 37) + ((im_i M32 71 21) * (im_i M32 71 26))) ≤ 120 then y40 else 10)))) : Int32), M32) else if ¬ (im_i M32 71 11) = 2000 then some (((if ¬ y40 = 0 then y40 else (if ¬ p0 = 69 then y40 else (if 12 < ((im_i M32 71 35) + (im_i M32 71 21)) then 10 else (if ((im_i M32 71 37) + ((im_i M32 71 21) * (im_i M32 71 26))) ≤ 120 then y40 else 10)))) : Int32), M32) else some (10, M32) else some (3, M) else some (2, M)
theorem J_MScriptRows_test_d0 : decode J_MScriptRows_test.2.1 0 = .ok (.iload_n 1, 1) := by decide +kernel
theorem J_MScriptRows_test_d1 : decode J_MScriptRows_test.2.1 1 = .ok (.invokestatic 88, 3) := by decide +kernel
theorem J_MScriptRows_test_d4 : decode J_MScriptRows_test.2.1 4 = .ok (.ifCond .ge 5, 3) := by decide +kernel
theorem J_MScriptRows_test_d7 : decode J_MScriptRows_test.2.1 7 = .ok (.iconst 2, 1) := by decide +kernel
theorem J_MScriptRows_test_d8 : decode J_MScriptRows_test.2.1 8 = .ok (.ireturn, 1) := by decide +kernel
theorem J_MScriptRows_test_d9 : decode J_MScriptRows_test.2.1 9 = .ok (.aload_n 0, 1) := by decide +kernel
theorem J_MScriptRows_test_d10 : decode J_MScriptRows_test.2.1 10 = .ok (.iload_n 1, 1) := by decide +kernel
theorem J_MScriptRows_test_d11 : decode J_MScriptRows_test.2.1 11 = .ok (.invokevirtual 186, 3) := by decide +kernel
theorem J_MScriptRows_test_d14 : decode J_MScriptRows_test.2.1 14 = .ok (.ifCond .ne 5, 3) := by decide +kernel
theorem J_MScriptRows_test_d17 : decode J_MScriptRows_test.2.1 17 = .ok (.iconst 3, 1) := by decide +kernel
theorem J_MScriptRows_test_d18 : decode J_MScriptRows_test.2.1 18 = .ok (.ireturn, 1) := by decide +kernel
theorem J_MScriptRows_test_d19 : decode J_MScriptRows_test.2.1 19 = .ok (.aload_n 0, 1) := by decide +kernel
theorem J_MScriptRows_test_d20 : decode J_MScriptRows_test.2.1 20 = .ok (.iload_n 1, 1) := by decide +kernel
theorem J_MScriptRows_test_d21 : decode J_MScriptRows_test.2.1 21 = .ok (.invokevirtual 189, 3) := by decide +kernel
theorem J_MScriptRows_test_d24 : decode J_MScriptRows_test.2.1 24 = .ok (.istore_n 2, 1) := by decide +kernel
theorem J_MScriptRows_test_d25 : decode J_MScriptRows_test.2.1 25 = .ok (.iload_n 2, 1) := by decide +kernel
theorem J_MScriptRows_test_d26 : decode J_MScriptRows_test.2.1 26 = .ok (.ifCond .ne 11, 3) := by decide +kernel
theorem J_MScriptRows_test_d29 : decode J_MScriptRows_test.2.1 29 = .ok (.aload_n 0, 1) := by decide +kernel
theorem J_MScriptRows_test_d30 : decode J_MScriptRows_test.2.1 30 = .ok (.iload_n 1, 1) := by decide +kernel
theorem J_MScriptRows_test_d31 : decode J_MScriptRows_test.2.1 31 = .ok (.invokevirtual 192, 3) := by decide +kernel
theorem J_MScriptRows_test_d34 : decode J_MScriptRows_test.2.1 34 = .ok (.goto 4, 3) := by decide +kernel
theorem J_MScriptRows_test_d37 : decode J_MScriptRows_test.2.1 37 = .ok (.iload_n 2, 1) := by decide +kernel
theorem J_MScriptRows_test_d38 : decode J_MScriptRows_test.2.1 38 = .ok (.istore_n 2, 1) := by decide +kernel
theorem J_MScriptRows_test_d39 : decode J_MScriptRows_test.2.1 39 = .ok (.iload_n 2, 1) := by decide +kernel
theorem J_MScriptRows_test_d40 : decode J_MScriptRows_test.2.1 40 = .ok (.ifCond .ne 20, 3) := by decide +kernel
theorem J_MScriptRows_test_d43 : decode J_MScriptRows_test.2.1 43 = .ok (.iload_n 1, 1) := by decide +kernel
theorem J_MScriptRows_test_d44 : decode J_MScriptRows_test.2.1 44 = .ok (.bipush 88, 2) := by decide +kernel
theorem J_MScriptRows_test_d46 : decode J_MScriptRows_test.2.1 46 = .ok (.if_icmp .eq 9, 3) := by decide +kernel
theorem J_MScriptRows_test_d49 : decode J_MScriptRows_test.2.1 49 = .ok (.iload_n 1, 1) := by decide +kernel
theorem J_MScriptRows_test_d50 : decode J_MScriptRows_test.2.1 50 = .ok (.bipush 75, 2) := by decide +kernel
theorem J_MScriptRows_test_d52 : decode J_MScriptRows_test.2.1 52 = .ok (.if_icmp .ne 8, 3) := by decide +kernel
theorem J_MScriptRows_test_d55 : decode J_MScriptRows_test.2.1 55 = .ok (.aload_n 0, 1) := by decide +kernel
theorem J_MScriptRows_test_d56 : decode J_MScriptRows_test.2.1 56 = .ok (.invokevirtual 195, 3) := by decide +kernel
theorem J_MScriptRows_test_d59 : decode J_MScriptRows_test.2.1 59 = .ok (.istore_n 2, 1) := by decide +kernel
theorem J_MScriptRows_test_d60 : decode J_MScriptRows_test.2.1 60 = .ok (.iload_n 2, 1) := by decide +kernel
theorem J_MScriptRows_test_d61 : decode J_MScriptRows_test.2.1 61 = .ok (.ifCond .ne 29, 3) := by decide +kernel
theorem J_MScriptRows_test_d64 : decode J_MScriptRows_test.2.1 64 = .ok (.iload_n 1, 1) := by decide +kernel
theorem J_MScriptRows_test_d65 : decode J_MScriptRows_test.2.1 65 = .ok (.bipush 83, 2) := by decide +kernel
theorem J_MScriptRows_test_d67 : decode J_MScriptRows_test.2.1 67 = .ok (.if_icmp .ne 23, 3) := by decide +kernel
theorem J_MScriptRows_test_d70 : decode J_MScriptRows_test.2.1 70 = .ok (.aload_n 0, 1) := by decide +kernel
theorem J_MScriptRows_test_d71 : decode J_MScriptRows_test.2.1 71 = .ok (.invokevirtual 198, 3) := by decide +kernel
theorem J_MScriptRows_test_d74 : decode J_MScriptRows_test.2.1 74 = .ok (.ifCond .lt 13, 3) := by decide +kernel
theorem J_MScriptRows_test_d77 : decode J_MScriptRows_test.2.1 77 = .ok (.aload_n 0, 1) := by decide +kernel
theorem J_MScriptRows_test_d78 : decode J_MScriptRows_test.2.1 78 = .ok (.invokevirtual 198, 3) := by decide +kernel
theorem J_MScriptRows_test_d81 : decode J_MScriptRows_test.2.1 81 = .ok (.sipush 400, 3) := by decide +kernel
theorem J_MScriptRows_test_d84 : decode J_MScriptRows_test.2.1 84 = .ok (.if_icmp .le 6, 3) := by decide +kernel
theorem J_MScriptRows_test_d87 : decode J_MScriptRows_test.2.1 87 = .ok (.bipush 7, 2) := by decide +kernel
theorem J_MScriptRows_test_d89 : decode J_MScriptRows_test.2.1 89 = .ok (.istore_n 2, 1) := by decide +kernel
theorem J_MScriptRows_test_d90 : decode J_MScriptRows_test.2.1 90 = .ok (.iload_n 2, 1) := by decide +kernel
theorem J_MScriptRows_test_d91 : decode J_MScriptRows_test.2.1 91 = .ok (.ifCond .ne 14, 3) := by decide +kernel
theorem J_MScriptRows_test_d94 : decode J_MScriptRows_test.2.1 94 = .ok (.iload_n 1, 1) := by decide +kernel
theorem J_MScriptRows_test_d95 : decode J_MScriptRows_test.2.1 95 = .ok (.bipush 59, 2) := by decide +kernel
theorem J_MScriptRows_test_d97 : decode J_MScriptRows_test.2.1 97 = .ok (.if_icmp .ne 8, 3) := by decide +kernel
theorem J_MScriptRows_test_d100 : decode J_MScriptRows_test.2.1 100 = .ok (.aload_n 0, 1) := by decide +kernel
theorem J_MScriptRows_test_d101 : decode J_MScriptRows_test.2.1 101 = .ok (.invokevirtual 201, 3) := by decide +kernel
theorem J_MScriptRows_test_d104 : decode J_MScriptRows_test.2.1 104 = .ok (.istore_n 2, 1) := by decide +kernel
theorem J_MScriptRows_test_d105 : decode J_MScriptRows_test.2.1 105 = .ok (.iload_n 2, 1) := by decide +kernel
theorem J_MScriptRows_test_d106 : decode J_MScriptRows_test.2.1 106 = .ok (.ifCond .ne 34, 3) := by decide +kernel
theorem J_MScriptRows_test_d109 : decode J_MScriptRows_test.2.1 109 = .ok (.iload_n 1, 1) := by decide +kernel
theorem J_MScriptRows_test_d110 : decode J_MScriptRows_test.2.1 110 = .ok (.bipush 85, 2) := by decide +kernel
theorem J_MScriptRows_test_d112 : decode J_MScriptRows_test.2.1 112 = .ok (.if_icmp .ne 28, 3) := by decide +kernel
theorem J_MScriptRows_test_d115 : decode J_MScriptRows_test.2.1 115 = .ok (.aload_n 0, 1) := by decide +kernel
theorem J_MScriptRows_test_d116 : decode J_MScriptRows_test.2.1 116 = .ok (.getfield 16, 3) := by decide +kernel
theorem J_MScriptRows_test_d119 : decode J_MScriptRows_test.2.1 119 = .ok (.aload_n 0, 1) := by decide +kernel
theorem J_MScriptRows_test_d120 : decode J_MScriptRows_test.2.1 120 = .ok (.getfield 32, 3) := by decide +kernel
theorem J_MScriptRows_test_d123 : decode J_MScriptRows_test.2.1 123 = .ok (.iconst 0, 1) := by decide +kernel
theorem J_MScriptRows_test_d124 : decode J_MScriptRows_test.2.1 124 = .ok (.iaload, 1) := by decide +kernel
theorem J_MScriptRows_test_d125 : decode J_MScriptRows_test.2.1 125 = .ok (.iaload, 1) := by decide +kernel
theorem J_MScriptRows_test_d126 : decode J_MScriptRows_test.2.1 126 = .ok (.ifCond .eq 11, 3) := by decide +kernel
theorem J_MScriptRows_test_d129 : decode J_MScriptRows_test.2.1 129 = .ok (.aload_n 0, 1) := by decide +kernel
theorem J_MScriptRows_test_d130 : decode J_MScriptRows_test.2.1 130 = .ok (.getfield 183, 3) := by decide +kernel
theorem J_MScriptRows_test_d133 : decode J_MScriptRows_test.2.1 133 = .ok (.iconst 4, 1) := by decide +kernel
theorem J_MScriptRows_test_d134 : decode J_MScriptRows_test.2.1 134 = .ok (.if_icmp .ne 6, 3) := by decide +kernel
theorem J_MScriptRows_test_d137 : decode J_MScriptRows_test.2.1 137 = .ok (.bipush 9, 2) := by decide +kernel
theorem J_MScriptRows_test_d139 : decode J_MScriptRows_test.2.1 139 = .ok (.istore_n 2, 1) := by decide +kernel
theorem J_MScriptRows_test_d140 : decode J_MScriptRows_test.2.1 140 = .ok (.iload_n 2, 1) := by decide +kernel
theorem J_MScriptRows_test_d141 : decode J_MScriptRows_test.2.1 141 = .ok (.ifCond .ne 45, 3) := by decide +kernel
theorem J_MScriptRows_test_d144 : decode J_MScriptRows_test.2.1 144 = .ok (.iload_n 1, 1) := by decide +kernel
theorem J_MScriptRows_test_d145 : decode J_MScriptRows_test.2.1 145 = .ok (.bipush 69, 2) := by decide +kernel
theorem J_MScriptRows_test_d147 : decode J_MScriptRows_test.2.1 147 = .ok (.if_icmp .ne 39, 3) := by decide +kernel
theorem J_MScriptRows_test_d150 : decode J_MScriptRows_test.2.1 150 = .ok (.aload_n 0, 1) := by decide +kernel
theorem J_MScriptRows_test_d151 : decode J_MScriptRows_test.2.1 151 = .ok (.getfield 204, 3) := by decide +kernel
theorem J_MScriptRows_test_d154 : decode J_MScriptRows_test.2.1 154 = .ok (.aload_n 0, 1) := by decide +kernel
theorem J_MScriptRows_test_d155 : decode J_MScriptRows_test.2.1 155 = .ok (.getfield 207, 3) := by decide +kernel
theorem J_MScriptRows_test_d158 : decode J_MScriptRows_test.2.1 158 = .ok (.iadd, 1) := by decide +kernel
theorem J_MScriptRows_test_d159 : decode J_MScriptRows_test.2.1 159 = .ok (.bipush 12, 2) := by decide +kernel
theorem J_MScriptRows_test_d161 : decode J_MScriptRows_test.2.1 161 = .ok (.if_icmp .gt 22, 3) := by decide +kernel
theorem J_MScriptRows_test_d164 : decode J_MScriptRows_test.2.1 164 = .ok (.aload_n 0, 1) := by decide +kernel
theorem J_MScriptRows_test_d165 : decode J_MScriptRows_test.2.1 165 = .ok (.getfield 155, 3) := by decide +kernel
theorem J_MScriptRows_test_d168 : decode J_MScriptRows_test.2.1 168 = .ok (.aload_n 0, 1) := by decide +kernel
theorem J_MScriptRows_test_d169 : decode J_MScriptRows_test.2.1 169 = .ok (.getfield 207, 3) := by decide +kernel
theorem J_MScriptRows_test_d172 : decode J_MScriptRows_test.2.1 172 = .ok (.aload_n 0, 1) := by decide +kernel
theorem J_MScriptRows_test_d173 : decode J_MScriptRows_test.2.1 173 = .ok (.getfield 123, 3) := by decide +kernel
theorem J_MScriptRows_test_d176 : decode J_MScriptRows_test.2.1 176 = .ok (.imul, 1) := by decide +kernel
theorem J_MScriptRows_test_d177 : decode J_MScriptRows_test.2.1 177 = .ok (.iadd, 1) := by decide +kernel
theorem J_MScriptRows_test_d178 : decode J_MScriptRows_test.2.1 178 = .ok (.bipush 120, 2) := by decide +kernel
theorem J_MScriptRows_test_d180 : decode J_MScriptRows_test.2.1 180 = .ok (.if_icmp .le 6, 3) := by decide +kernel
theorem J_MScriptRows_test_d183 : decode J_MScriptRows_test.2.1 183 = .ok (.bipush 10, 2) := by decide +kernel
theorem J_MScriptRows_test_d185 : decode J_MScriptRows_test.2.1 185 = .ok (.istore_n 2, 1) := by decide +kernel
theorem J_MScriptRows_test_d186 : decode J_MScriptRows_test.2.1 186 = .ok (.iload_n 2, 1) := by decide +kernel
theorem J_MScriptRows_test_d187 : decode J_MScriptRows_test.2.1 187 = .ok (.ifCond .ne 18, 3) := by decide +kernel
theorem J_MScriptRows_test_d190 : decode J_MScriptRows_test.2.1 190 = .ok (.aload_n 0, 1) := by decide +kernel
theorem J_MScriptRows_test_d191 : decode J_MScriptRows_test.2.1 191 = .ok (.getfield 210, 3) := by decide +kernel
theorem J_MScriptRows_test_d194 : decode J_MScriptRows_test.2.1 194 = .ok (.sipush 2000, 3) := by decide +kernel
theorem J_MScriptRows_test_d197 : decode J_MScriptRows_test.2.1 197 = .ok (.if_icmp .ne 8, 3) := by decide +kernel
theorem J_MScriptRows_test_d200 : decode J_MScriptRows_test.2.1 200 = .ok (.bipush 10, 2) := by decide +kernel
theorem J_MScriptRows_test_d202 : decode J_MScriptRows_test.2.1 202 = .ok (.goto 4, 3) := by decide +kernel
theorem J_MScriptRows_test_d205 : decode J_MScriptRows_test.2.1 205 = .ok (.iload_n 2, 1) := by decide +kernel
theorem J_MScriptRows_test_d206 : decode J_MScriptRows_test.2.1 206 = .ok (.ireturn, 1) := by decide +kernel
theorem f_MScriptRows_test_ok {L : Nat} {xs : Nat → Int32} {dep : Nat} {w : Bool} {p0 : Int32} {M : im_M} {Q : Int32 × im_M → Prop} (hM : lw_S w M) (h : ed (f_MScriptRows_test p0 M) Q) : ia (tb_G L xs) (dep + 8) J_MScriptRows_test (rwI w Q) (0, lv_args 0 [.ref 71, .int p0], [], M) := by
  have hS : im_St (tb_G L xs) (dep + 8) J_MScriptRows_test (ia (tb_G L xs) (dep + 8) J_MScriptRows_test (rwI w Q)) := ia_St
  unfold f_MScriptRows_test at h
  have l0 : im_lk (lv_args 0 [.ref 71, .int p0]) 0 = some (.ref 71) := rfl
  have l1 : im_lk (lv_args 0 [.ref 71, .int p0]) 1 = some (.int p0) := rfl
  refine iq_iload_n hS 1 J_MScriptRows_test_d0 l1 rfl ?_
  obtain ⟨Q1, hQ1, h⟩ := bd1_ed h
  refine iq_cpI hS 4 J_MScriptRows_test_d1 rfl (pr_stat (vs := [_]) lc_15_88 lT_279 rfl rfl (by decide) rfl (Nat.le_of_ble_eq_true rfl) (Nat.le_of_ble_eq_true rfl)) (f_MScriptRows_numbers_ok (dep := dep + 7) hM h) rfl ?_
  intro x1 h
  replace h := hQ1 _ h
  refine iq_if_ge hS 7 J_MScriptRows_test_d4 (t := 9) rfl (fun q4 => ?_) rfl (fun q4 => ?_)
  · replace h := ed_pos q4 h
    refine iq_aload_n hS 10 J_MScriptRows_test_d9 l0 rfl ?_
    refine iq_iload_n hS 11 J_MScriptRows_test_d10 l1 rfl ?_
    obtain ⟨Q2, hQ2, h⟩ := bd1_ed h
    refine iq_cpI hS 14 J_MScriptRows_test_d11 rfl (pr_inst (vs := [_]) lc_15_186 lT_280 rfl rfl (by decide) (by decide) rfl (Nat.le_of_ble_eq_true rfl) (Nat.le_of_ble_eq_true rfl) (fun _ => Or.inl (pr_b (ka_71 hM) (by decide) rfl))) (f_MScriptRows_mayStand_ok (dep := dep + 7) hM h) rfl ?_
    intro x2 h
    replace h := hQ2 _ h
    refine iq_if_ne hS 17 J_MScriptRows_test_d14 (t := 19) rfl (fun q14 => ?_) rfl (fun q14 => ?_)
    · replace h := ed_pos q14 h
      refine iq_aload_n hS 20 J_MScriptRows_test_d19 l0 rfl ?_
      refine iq_iload_n hS 21 J_MScriptRows_test_d20 l1 rfl ?_
      obtain ⟨Q3, hQ3, h⟩ := bd2_ed h
      refine iq_cwI hS 24 J_MScriptRows_test_d21 rfl (pr_inst (vs := [_]) lc_15_189 lT_281 rfl rfl (by decide) (by decide) rfl (Nat.le_of_ble_eq_true rfl) (Nat.le_of_ble_eq_true rfl) (fun _ => Or.inl (pr_b (ka_71 hM) (by decide) rfl))) (f_MScriptRows_takeNumbers_ok (dep := dep + 5) hM h) rfl ?_
      intro x3 M3 hM3 h
      replace h := hQ3 _ _ h
      refine iq_istore_n hS 25 J_MScriptRows_test_d24 (by decide) rfl ?_
      refine iq_iload_n hS 26 J_MScriptRows_test_d25 lk_1s rfl ?_
      obtain ⟨Q4, hQ4, h⟩ := bd1_ed h
      have J4 : ∀ (y6 : Int32) (L' : List (Nat × Value)), im_lk L' 0 = some (.ref 71) → im_lk L' 1 = some (.int p0) → Q4 y6 → ia (tb_G L xs) (dep + 8) J_MScriptRows_test (rwI w Q) (38, L', [.int y6], M3) := by
        intro y6 L' l7 l8 h
        replace h := hQ4 _ h
        refine iq_istore_n hS 39 J_MScriptRows_test_d38 (by decide) rfl ?_
        refine iq_iload_n hS 40 J_MScriptRows_test_d39 lk_1s rfl ?_
        obtain ⟨Q9, hQ9, h⟩ := bd2_ed h
        have J9 : ∀ (y14 : Int32) (M15 : im_M) (L' : List (Nat × Value)), lw_S w M15 → im_lk L' 0 = some (.ref 71) → im_lk L' 1 = some (.int p0) → im_lk L' 2 = some (.int y14) → Q9 (y14, M15) → ia (tb_G L xs) (dep + 8) J_MScriptRows_test (rwI w Q) (60, L', [], M15) := by
          intro y14 M15 L' hM15 l16 l17 l18 h
          replace h := hQ9 _ _ h
          refine iq_iload_n hS 61 J_MScriptRows_test_d60 l18 rfl ?_
          obtain ⟨Q19, hQ19, h⟩ := bd1_ed h
          have J19 : ∀ (y25 : Int32) (L' : List (Nat × Value)), im_lk L' 0 = some (.ref 71) → im_lk L' 1 = some (.int p0) → im_lk L' 2 = some (.int y25) → Q19 y25 → ia (tb_G L xs) (dep + 8) J_MScriptRows_test (rwI w Q) (90, L', [], M15) := by
            intro y25 L' l26 l27 l28 h
            replace h := hQ19 _ h
            refine iq_iload_n hS 91 J_MScriptRows_test_d90 l28 rfl ?_
            obtain ⟨Q29, hQ29, h⟩ := bd2_ed h
            have J29 : ∀ (y31 : Int32) (M32 : im_M) (L' : List (Nat × Value)), lw_S w M32 → im_lk L' 0 = some (.ref 71) → im_lk L' 1 = some (.int p0) → im_lk L' 2 = some (.int y31) → Q29 (y31, M32) → ia (tb_G L xs) (dep + 8) J_MScriptRows_test (rwI w Q) (105, L', [], M32) := by
              intro y31 M32 L' hM32 l33 l34 l35 h
              replace h := hQ29 _ _ h
              refine iq_iload_n hS 106 J_MScriptRows_test_d105 l35 rfl ?_
              obtain ⟨Q36, hQ36, h⟩ := bd1_ed h
              have J36 : ∀ (y40 : Int32) (L' : List (Nat × Value)), im_lk L' 0 = some (.ref 71) → im_lk L' 1 = some (.int p0) → im_lk L' 2 = some (.int y40) → Q36 y40 → ia (tb_G L xs) (dep + 8) J_MScriptRows_test (rwI w Q) (140, L', [], M32) := by
                intro y40 L' l41 l42 l43 h
                replace h := hQ36 _ h
                refine iq_iload_n hS 141 J_MScriptRows_test_d140 l43 rfl ?_
                have J44 : ∀ (z45 : Int32) (L' : List (Nat × Value)), z45 = ((if ¬ y40 = 0 then y40 else (if ¬ p0 = 69 then y40 else (if 12 < ((im_i M32 71 35) + (im_i M32 71 21)) then 10 else (if ((im_i M32 71 37) + ((im_i M32 71 21) * (im_i M32 71 26))) ≤ 120 then y40 else 10)))) : Int32) → im_lk L' 0 = some (.ref 71) → im_lk L' 2 = some (.int z45) → ia (tb_G L xs) (dep + 8) J_MScriptRows_test (rwI w Q) (186, L', [], M32) := by
                  intro z45 L' e46 l47 l48
                  subst e46
                  refine iq_iload_n hS 187 J_MScriptRows_test_d186 l48 rfl ?_
                  refine iq_if_ne hS 190 J_MScriptRows_test_d187 (t := 205) rfl (fun q187 => ?_) rfl (fun q187 => ?_)
                  · replace h := ed_pos q187 h
                    refine iq_iload_n hS 206 J_MScriptRows_test_d205 l48 rfl ?_
                    exact iq_iret J_MScriptRows_test_d206 rfl rfl ⟨_, rfl, hM32, ed_some h⟩
                  · replace h := ed_neg q187 h
                    refine iq_aload_n hS 191 J_MScriptRows_test_d190 l47 rfl ?_
                    refine iq_getI hS 194 J_MScriptRows_test_d191 lf_15_210 (Or.inl rfl) (ka_71 hM32) rfl ?_
                    refine iq_sipush hS 197 J_MScriptRows_test_d194 (v := 2000) (by decide +kernel) rfl ?_
                    refine iq_icmp_ne hS 200 J_MScriptRows_test_d197 (t := 205) rfl (fun q197 => ?_) rfl (fun q197 => ?_)
                    · replace h := ed_pos q197 h
                      refine iq_iload_n hS 206 J_MScriptRows_test_d205 l48 rfl ?_
                      exact iq_iret J_MScriptRows_test_d206 rfl rfl ⟨_, rfl, hM32, ed_some h⟩
                    · replace h := ed_neg q197 h
                      refine iq_bipush hS 202 J_MScriptRows_test_d200 (v := 10) (by decide +kernel) rfl ?_
                      refine iq_goto hS J_MScriptRows_test_d202 (t := 206) rfl ?_
                      exact iq_iret J_MScriptRows_test_d206 rfl rfl ⟨_, rfl, hM32, ed_some h⟩
                refine iq_if_ne hS 144 J_MScriptRows_test_d141 (t := 186) rfl (fun q141 => ?_) rfl (fun q141 => ?_)
                · exact J44 _ _ (by rw [if_pos q141]) l41 l43
                · refine iq_iload_n hS 145 J_MScriptRows_test_d144 l42 rfl ?_
                  refine iq_bipush hS 147 J_MScriptRows_test_d145 (v := 69) (by decide +kernel) rfl ?_
                  refine iq_icmp_ne hS 150 J_MScriptRows_test_d147 (t := 186) rfl (fun q147 => ?_) rfl (fun q147 => ?_)
                  · exact J44 _ _ (by rw [if_neg q141, if_pos q147]) l41 l43
                  · refine iq_aload_n hS 151 J_MScriptRows_test_d150 l41 rfl ?_
                    refine iq_getI hS 154 J_MScriptRows_test_d151 lf_15_204 (Or.inl rfl) (ka_71 hM32) rfl ?_
                    refine iq_aload_n hS 155 J_MScriptRows_test_d154 l41 rfl ?_
                    refine iq_getI hS 158 J_MScriptRows_test_d155 lf_15_207 (Or.inl rfl) (ka_71 hM32) rfl ?_
                    refine iq_iadd hS 159 J_MScriptRows_test_d158 rfl ?_
                    refine iq_bipush hS 161 J_MScriptRows_test_d159 (v := 12) (by decide +kernel) rfl ?_
                    refine iq_icmp_gt hS 164 J_MScriptRows_test_d161 (t := 183) rfl (fun q161 => ?_) rfl (fun q161 => ?_)
                    · refine iq_bipush hS 185 J_MScriptRows_test_d183 (v := 10) (by decide +kernel) rfl ?_
                      refine iq_istore_n hS 186 J_MScriptRows_test_d185 (by decide) rfl ?_
                      exact J44 _ _ (by rw [if_neg q141, if_neg q147, if_pos q161]) (lk_1r l41 (by decide)) lk_1s
                    · refine iq_aload_n hS 165 J_MScriptRows_test_d164 l41 rfl ?_
                      refine iq_getI hS 168 J_MScriptRows_test_d165 lf_15_155 (Or.inl rfl) (ka_71 hM32) rfl ?_
                      refine iq_aload_n hS 169 J_MScriptRows_test_d168 l41 rfl ?_
                      refine iq_getI hS 172 J_MScriptRows_test_d169 lf_15_207 (Or.inl rfl) (ka_71 hM32) rfl ?_
                      refine iq_aload_n hS 173 J_MScriptRows_test_d172 l41 rfl ?_
                      refine iq_getI hS 176 J_MScriptRows_test_d173 lf_15_123 (Or.inl rfl) (ka_71 hM32) rfl ?_
                      refine iq_imul hS 177 J_MScriptRows_test_d176 rfl ?_
                      refine iq_iadd hS 178 J_MScriptRows_test_d177 rfl ?_
                      refine iq_bipush hS 180 J_MScriptRows_test_d178 (v := 120) (by decide +kernel) rfl ?_
                      refine iq_icmp_le hS 183 J_MScriptRows_test_d180 (t := 186) rfl (fun q180 => ?_) rfl (fun q180 => ?_)
                      · exact J44 _ _ (by rw [if_neg q141, if_neg q147, if_neg q161, if_pos q180]) l41 l43
                      · refine iq_bipush hS 185 J_MScriptRows_test_d183 (v := 10) (by decide +kernel) rfl ?_
                        refine iq_istore_n hS 186 J_MScriptRows_test_d185 (by decide) rfl ?_
                        exact J44 _ _ (by rw [if_neg q141, if_neg q147, if_neg q161, if_neg q180]) (lk_1r l41 (by decide)) lk_1s
              refine iq_if_ne hS 109 J_MScriptRows_test_d106 (t := 140) rfl (fun q106 => ?_) rfl (fun q106 => ?_)
              · replace h := ed_pos q106 h
                exact J36 _ _ l33 l34 l35 (ed_some h)
              · replace h := ed_neg q106 h
                refine iq_iload_n hS 110 J_MScriptRows_test_d109 l34 rfl ?_
                refine iq_bipush hS 112 J_MScriptRows_test_d110 (v := 85) (by decide +kernel) rfl ?_
                refine iq_icmp_ne hS 115 J_MScriptRows_test_d112 (t := 140) rfl (fun q112 => ?_) rfl (fun q112 => ?_)
                · replace h := ed_pos q112 h
                  exact J36 _ _ l33 l34 l35 (ed_some h)
                · replace h := ed_neg q112 h
                  refine iq_aload_n hS 116 J_MScriptRows_test_d115 l33 rfl ?_
                  refine iq_getR hS 119 J_MScriptRows_test_d116 lf_15_16 (Or.inr ⟨_, rfl⟩) (ka_71 hM32) (ra_71_4 hM32) rfl ?_
                  refine iq_aload_n hS 120 J_MScriptRows_test_d119 l33 rfl ?_
                  refine iq_getR hS 123 J_MScriptRows_test_d120 lf_15_32 (Or.inr ⟨_, rfl⟩) (ka_71 hM32) (ra_71_15 hM32) rfl ?_
                  refine iq_iconst hS 124 J_MScriptRows_test_d123 (v := 0) (by decide +kernel) rfl ?_
                  obtain ⟨g124, h⟩ := ed_gd h
                  refine iq_iaload hS 125 J_MScriptRows_test_d124 ⟨(ka_78 hM32).1, (ka_78 hM32).2, g124.1, ix_lt (kl_78 hM32) g124.2⟩ rfl ?_
                  obtain ⟨g125, h⟩ := ed_gd h
                  refine iq_iaload hS 126 J_MScriptRows_test_d125 ⟨(ka_74 hM32).1, (ka_74 hM32).2, g125.1, ix_lt (kl_74 hM32) g125.2⟩ rfl ?_
                  obtain ⟨k37, Q37, hQ37, hk37, h⟩ := jn0_ed h
                  have J37 : ∀  (L' : List (Nat × Value)), im_lk L' 0 = some (.ref 71) → im_lk L' 1 = some (.int p0) → Q37 () → ia (tb_G L xs) (dep + 8) J_MScriptRows_test (rwI w Q) (137, L', [], M32) := by
                    intro  L' l38 l39 h
                    replace h := hQ37  h
                    refine iq_bipush hS 139 J_MScriptRows_test_d137 (v := 9) (by decide +kernel) rfl ?_
                    refine iq_istore_n hS 140 J_MScriptRows_test_d139 (by decide) rfl ?_
                    exact J36 _ _ (lk_1r l38 (by decide)) (lk_1i l39 (by decide)) lk_1s (ed_some h)
                  refine iq_if_eq hS 129 J_MScriptRows_test_d126 (t := 137) rfl (fun q126 => ?_) rfl (fun q126 => ?_)
                  · replace h := ed_pos q126 h
                    exact J37  _ l33 l34 (hk37  h)
                  · replace h := ed_neg q126 h
                    refine iq_aload_n hS 130 J_MScriptRows_test_d129 l33 rfl ?_
                    refine iq_getI hS 133 J_MScriptRows_test_d130 lf_15_183 (Or.inl rfl) (ka_71 hM32) rfl ?_
                    refine iq_iconst hS 134 J_MScriptRows_test_d133 (v := 4) (by decide +kernel) rfl ?_
                    refine iq_icmp_ne hS 137 J_MScriptRows_test_d134 (t := 140) rfl (fun q134 => ?_) rfl (fun q134 => ?_)
                    · replace h := ed_pos q134 h
                      exact J36 _ _ l33 l34 l35 (ed_some h)
                    · replace h := ed_neg q134 h
                      exact J37  _ l33 l34 (hk37  h)
            refine iq_if_ne hS 94 J_MScriptRows_test_d91 (t := 105) rfl (fun q91 => ?_) rfl (fun q91 => ?_)
            · replace h := ed_pos q91 h
              exact J29 _ _ _ hM15 l26 l27 l28 (ed_some h)
            · replace h := ed_neg q91 h
              refine iq_iload_n hS 95 J_MScriptRows_test_d94 l27 rfl ?_
              refine iq_bipush hS 97 J_MScriptRows_test_d95 (v := 59) (by decide +kernel) rfl ?_
              refine iq_icmp_ne hS 100 J_MScriptRows_test_d97 (t := 105) rfl (fun q97 => ?_) rfl (fun q97 => ?_)
              · replace h := ed_pos q97 h
                exact J29 _ _ _ hM15 l26 l27 l28 (ed_some h)
              · replace h := ed_neg q97 h
                refine iq_aload_n hS 101 J_MScriptRows_test_d100 l26 rfl ?_
                obtain ⟨Q30, hQ30, h⟩ := bd2_ed h
                refine iq_cwI hS 104 J_MScriptRows_test_d101 rfl (pr_inst (vs := []) lc_15_201 lT_290 rfl rfl (by decide) (by decide) rfl (Nat.le_of_ble_eq_true rfl) (Nat.le_of_ble_eq_true rfl) (fun _ => Or.inl (pr_b (ka_71 hM15) (by decide) rfl))) (f_MScriptRows_tryField_ok (dep := dep + 0) hM15 h) rfl ?_
                intro x30 M30 hM30 h
                replace h := hQ30 _ _ h
                refine iq_istore_n hS 105 J_MScriptRows_test_d104 (by decide) rfl ?_
                exact J29 _ _ _ hM30 (lk_1r l26 (by decide)) (lk_1i l27 (by decide)) lk_1s (ed_some h)
          refine iq_if_ne hS 64 J_MScriptRows_test_d61 (t := 90) rfl (fun q61 => ?_) rfl (fun q61 => ?_)
          · replace h := ed_pos q61 h
            exact J19 _ _ l16 l17 l18 (ed_some h)
          · replace h := ed_neg q61 h
            refine iq_iload_n hS 65 J_MScriptRows_test_d64 l17 rfl ?_
            refine iq_bipush hS 67 J_MScriptRows_test_d65 (v := 83) (by decide +kernel) rfl ?_
            refine iq_icmp_ne hS 70 J_MScriptRows_test_d67 (t := 90) rfl (fun q67 => ?_) rfl (fun q67 => ?_)
            · replace h := ed_pos q67 h
              exact J19 _ _ l16 l17 l18 (ed_some h)
            · replace h := ed_neg q67 h
              refine iq_aload_n hS 71 J_MScriptRows_test_d70 l16 rfl ?_
              obtain ⟨Q20, hQ20, h⟩ := bd1_ed h
              refine iq_cpI hS 74 J_MScriptRows_test_d71 rfl (pr_inst (vs := []) lc_15_198 lT_289 rfl rfl (by decide) (by decide) rfl (Nat.le_of_ble_eq_true rfl) (Nat.le_of_ble_eq_true rfl) (fun _ => Or.inl (pr_b (ka_71 hM15) (by decide) rfl))) (f_MScriptRows_formSize_ok (dep := dep + 7) hM15 h) rfl ?_
              intro x20 h
              replace h := hQ20 _ h
              obtain ⟨k21, Q21, hQ21, hk21, h⟩ := jn0_ed h
              have J21 : ∀  (L' : List (Nat × Value)), im_lk L' 0 = some (.ref 71) → im_lk L' 1 = some (.int p0) → Q21 () → ia (tb_G L xs) (dep + 8) J_MScriptRows_test (rwI w Q) (87, L', [], M15) := by
                intro  L' l23 l24 h
                replace h := hQ21  h
                refine iq_bipush hS 89 J_MScriptRows_test_d87 (v := 7) (by decide +kernel) rfl ?_
                refine iq_istore_n hS 90 J_MScriptRows_test_d89 (by decide) rfl ?_
                exact J19 _ _ (lk_1r l23 (by decide)) (lk_1i l24 (by decide)) lk_1s (ed_some h)
              refine iq_if_lt hS 77 J_MScriptRows_test_d74 (t := 87) rfl (fun q74 => ?_) rfl (fun q74 => ?_)
              · replace h := ed_pos q74 h
                exact J21  _ l16 l17 (hk21  h)
              · replace h := ed_neg q74 h
                refine iq_aload_n hS 78 J_MScriptRows_test_d77 l16 rfl ?_
                obtain ⟨Q22, hQ22, h⟩ := bd1_ed h
                refine iq_cpI hS 81 J_MScriptRows_test_d78 rfl (pr_inst (vs := []) lc_15_198 lT_289 rfl rfl (by decide) (by decide) rfl (Nat.le_of_ble_eq_true rfl) (Nat.le_of_ble_eq_true rfl) (fun _ => Or.inl (pr_b (ka_71 hM15) (by decide) rfl))) (f_MScriptRows_formSize_ok (dep := dep + 7) hM15 h) rfl ?_
                intro x22 h
                replace h := hQ22 _ h
                refine iq_sipush hS 84 J_MScriptRows_test_d81 (v := 400) (by decide +kernel) rfl ?_
                refine iq_icmp_le hS 87 J_MScriptRows_test_d84 (t := 90) rfl (fun q84 => ?_) rfl (fun q84 => ?_)
                · replace h := ed_pos q84 h
                  exact J19 _ _ l16 l17 l18 (ed_some h)
                · replace h := ed_neg q84 h
                  exact J21  _ l16 l17 (hk21  h)
        refine iq_if_ne hS 43 J_MScriptRows_test_d40 (t := 60) rfl (fun q40 => ?_) rfl (fun q40 => ?_)
        · replace h := ed_pos q40 h
          exact J9 _ _ _ hM3 (lk_1r l7 (by decide)) (lk_1i l8 (by decide)) lk_1s (ed_some h)
        · replace h := ed_neg q40 h
          refine iq_iload_n hS 44 J_MScriptRows_test_d43 (lk_1i l8 (by decide)) rfl ?_
          refine iq_bipush hS 46 J_MScriptRows_test_d44 (v := 88) (by decide +kernel) rfl ?_
          obtain ⟨k10, Q10, hQ10, hk10, h⟩ := jn0_ed h
          have J10 : ∀  (L' : List (Nat × Value)), im_lk L' 0 = some (.ref 71) → im_lk L' 1 = some (.int p0) → Q10 () → ia (tb_G L xs) (dep + 8) J_MScriptRows_test (rwI w Q) (55, L', [], M3) := by
            intro  L' l11 l12 h
            replace h := hQ10  h
            refine iq_aload_n hS 56 J_MScriptRows_test_d55 l11 rfl ?_
            obtain ⟨Q13, hQ13, h⟩ := bd2_ed h
            refine iq_cwI hS 59 J_MScriptRows_test_d56 rfl (pr_inst (vs := []) lc_15_195 lT_287 rfl rfl (by decide) (by decide) rfl (Nat.le_of_ble_eq_true rfl) (Nat.le_of_ble_eq_true rfl) (fun _ => Or.inl (pr_b (ka_71 hM3) (by decide) rfl))) (f_MScriptRows_takeData_ok (dep := dep + 5) hM3 h) rfl ?_
            intro x13 M13 hM13 h
            replace h := hQ13 _ _ h
            refine iq_istore_n hS 60 J_MScriptRows_test_d59 (by decide) rfl ?_
            exact J9 _ _ _ hM13 (lk_1r l11 (by decide)) (lk_1i l12 (by decide)) lk_1s (ed_some h)
          refine iq_icmp_eq hS 49 J_MScriptRows_test_d46 (t := 55) rfl (fun q46 => ?_) rfl (fun q46 => ?_)
          · replace h := ed_pos q46 h
            exact J10  _ (lk_1r l7 (by decide)) (lk_1i l8 (by decide)) (hk10  h)
          · replace h := ed_neg q46 h
            refine iq_iload_n hS 50 J_MScriptRows_test_d49 (lk_1i l8 (by decide)) rfl ?_
            refine iq_bipush hS 52 J_MScriptRows_test_d50 (v := 75) (by decide +kernel) rfl ?_
            refine iq_icmp_ne hS 55 J_MScriptRows_test_d52 (t := 60) rfl (fun q52 => ?_) rfl (fun q52 => ?_)
            · replace h := ed_pos q52 h
              exact J9 _ _ _ hM3 (lk_1r l7 (by decide)) (lk_1i l8 (by decide)) lk_1s (ed_some h)
            · replace h := ed_neg q52 h
              exact J10  _ (lk_1r l7 (by decide)) (lk_1i l8 (by decide)) (hk10  h)
      refine iq_if_ne hS 29 J_MScriptRows_test_d26 (t := 37) rfl (fun q26 => ?_) rfl (fun q26 => ?_)
      · replace h := ed_pos q26 h
        refine iq_iload_n hS 38 J_MScriptRows_test_d37 lk_1s rfl ?_
        exact J4 _ _ (lk_1r l0 (by decide)) (lk_1i l1 (by decide)) (ed_some h)
      · replace h := ed_neg q26 h
        refine iq_aload_n hS 30 J_MScriptRows_test_d29 (lk_1r l0 (by decide)) rfl ?_
        refine iq_iload_n hS 31 J_MScriptRows_test_d30 (lk_1i l1 (by decide)) rfl ?_
        obtain ⟨Q5, hQ5, h⟩ := bd1_ed h
        refine iq_cpI hS 34 J_MScriptRows_test_d31 rfl (pr_inst (vs := [_]) lc_15_192 lT_284 rfl rfl (by decide) (by decide) rfl (Nat.le_of_ble_eq_true rfl) (Nat.le_of_ble_eq_true rfl) (fun _ => Or.inl (pr_b (ka_71 hM3) (by decide) rfl))) (f_MScriptRows_testRanges_ok (dep := dep + 5) hM3 h) rfl ?_
        intro x5 h
        replace h := hQ5 _ h
        refine iq_goto hS J_MScriptRows_test_d34 (t := 38) rfl ?_
        exact J4 _ _ (lk_1r l0 (by decide)) (lk_1i l1 (by decide)) (ed_some h)
    · replace h := ed_neg q14 h
      refine iq_iconst hS 18 J_MScriptRows_test_d17 (v := 3) (by decide +kernel) rfl ?_
      exact iq_iret J_MScriptRows_test_d18 rfl rfl ⟨_, rfl, hM, ed_some h⟩
  · replace h := ed_neg q4 h
    refine iq_iconst hS 8 J_MScriptRows_test_d7 (v := 2) (by decide +kernel) rfl ?_
    exact iq_iret J_MScriptRows_test_d8 rfl rfl ⟨_, rfl, hM, ed_some h⟩
noncomputable def f_MScriptRows_newField_L2 (x2 : Int32) (M3 : im_M) : Option ((Int32 × im_M) ⊕ (im_M)) := if 16 ≤ x2 then some (.inr M3) else gd (inb x2 16) <| some (.inl ((x2 + 1), (im_setI M3 81 (Int32.toNatClampNeg x2) 0)))
noncomputable def f_MScriptRows_newField (M : im_M) : Option (im_M) := bd1 (lp (uc2 (f_MScriptRows_newField_L2)) (0, M)) fun (M4 : im_M) => gd (inb 0 16) <| some (im_setI M4 81 (Int32.toNatClampNeg 0) (-1))
theorem J_MScriptRows_newField_d0 : decode J_MScriptRows_newField.2.1 0 = .ok (.iconst 0, 1) := by decide +kernel
theorem J_MScriptRows_newField_d1 : decode J_MScriptRows_newField.2.1 1 = .ok (.istore_n 1, 1) := by decide +kernel
theorem J_MScriptRows_newField_d2 : decode J_MScriptRows_newField.2.1 2 = .ok (.iload_n 1, 1) := by decide +kernel
theorem J_MScriptRows_newField_d3 : decode J_MScriptRows_newField.2.1 3 = .ok (.bipush 16, 2) := by decide +kernel
theorem J_MScriptRows_newField_d5 : decode J_MScriptRows_newField.2.1 5 = .ok (.if_icmp .ge 16, 3) := by decide +kernel
theorem J_MScriptRows_newField_d8 : decode J_MScriptRows_newField.2.1 8 = .ok (.aload_n 0, 1) := by decide +kernel
theorem J_MScriptRows_newField_d9 : decode J_MScriptRows_newField.2.1 9 = .ok (.getfield 41, 3) := by decide +kernel
theorem J_MScriptRows_newField_d12 : decode J_MScriptRows_newField.2.1 12 = .ok (.iload_n 1, 1) := by decide +kernel
theorem J_MScriptRows_newField_d13 : decode J_MScriptRows_newField.2.1 13 = .ok (.iconst 0, 1) := by decide +kernel
theorem J_MScriptRows_newField_d14 : decode J_MScriptRows_newField.2.1 14 = .ok (.iastore, 1) := by decide +kernel
theorem J_MScriptRows_newField_d15 : decode J_MScriptRows_newField.2.1 15 = .ok (.iinc 1 1, 3) := by decide +kernel
theorem J_MScriptRows_newField_d18 : decode J_MScriptRows_newField.2.1 18 = .ok (.goto (-16), 3) := by decide +kernel
theorem J_MScriptRows_newField_d21 : decode J_MScriptRows_newField.2.1 21 = .ok (.aload_n 0, 1) := by decide +kernel
theorem J_MScriptRows_newField_d22 : decode J_MScriptRows_newField.2.1 22 = .ok (.getfield 41, 3) := by decide +kernel
theorem J_MScriptRows_newField_d25 : decode J_MScriptRows_newField.2.1 25 = .ok (.iconst 0, 1) := by decide +kernel
theorem J_MScriptRows_newField_d26 : decode J_MScriptRows_newField.2.1 26 = .ok (.iconst (-1), 1) := by decide +kernel
theorem J_MScriptRows_newField_d27 : decode J_MScriptRows_newField.2.1 27 = .ok (.iastore, 1) := by decide +kernel
theorem J_MScriptRows_newField_d28 : decode J_MScriptRows_newField.2.1 28 = .ok (.return_, 1) := by decide +kernel
theorem f_MScriptRows_newField_ok {L : Nat} {xs : Nat → Int32} {dep : Nat} {w : Bool} {M : im_M} {Q : im_M → Prop} (hM : lw_S w M) (h : ed (f_MScriptRows_newField M) Q) : ia (tb_G L xs) dep J_MScriptRows_newField (rwV w Q) (0, lv_args 0 [.ref 71], [], M) := by
  have hS : im_St (tb_G L xs) dep J_MScriptRows_newField (ia (tb_G L xs) dep J_MScriptRows_newField (rwV w Q)) := ia_St
  unfold f_MScriptRows_newField at h
  have l0 : im_lk (lv_args 0 [.ref 71]) 0 = some (.ref 71) := rfl
  refine iq_iconst hS 1 J_MScriptRows_newField_d0 (v := 0) (by decide +kernel) rfl ?_
  refine iq_istore_n hS 2 J_MScriptRows_newField_d1 (by decide) rfl ?_
  obtain ⟨Q1, hQ1, h⟩ := bd1_ed h
  have K1 : ∀ (M2 : im_M) (L' : List (Nat × Value)), lw_S w M2 → im_lk L' 0 = some (.ref 71) → Q1 M2 → ia (tb_G L xs) dep J_MScriptRows_newField (rwV w Q) (21, L', [], M2) := by
    intro M2 L' hM2 l3 h
    replace h := hQ1 _ h
    refine iq_aload_n hS 22 J_MScriptRows_newField_d21 l3 rfl ?_
    refine iq_getR hS 25 J_MScriptRows_newField_d22 lf_15_41 (Or.inr ⟨_, rfl⟩) (ka_71 hM2) (ra_71_27 hM2) rfl ?_
    refine iq_iconst hS 26 J_MScriptRows_newField_d25 (v := 0) (by decide +kernel) rfl ?_
    refine iq_iconst hS 27 J_MScriptRows_newField_d26 (v := (-1)) (by decide +kernel) rfl ?_
    obtain ⟨g27, h⟩ := ed_gd h
    refine iq_iastore hS 28 J_MScriptRows_newField_d27 ⟨(ka_81 hM2).1, (ka_81 hM2).2, g27.1, ix_lt (kl_81 hM2) g27.2⟩ rfl ?_
    exact iq_ret J_MScriptRows_newField_d28 rfl ⟨rfl, hM2, ed_some h⟩
  obtain ⟨r1, hr1, hq1⟩ := h
  obtain ⟨n1, hn1⟩ := lp_n hr1
  have I1 : ∀ (n : Nat) (x4 : Int32) (M5 : im_M) (L' : List (Nat × Value)), lw_S w M5 → im_lk L' 0 = some (.ref 71) → im_lk L' 1 = some (.int x4) → lpn (uc2 (f_MScriptRows_newField_L2)) n (x4, M5) = some r1 → ia (tb_G L xs) dep J_MScriptRows_newField (rwV w Q) (2, L', [], M5) := by
    intro n
    induction n with
    | zero => intro x4 M5 L' hM5 l6 l7 hn; exact (lpn_0 hn).elim
    | succ n ih =>
      intro x4 M5 L' hM5 l6 l7 hn
      have h := lpn_ed2 hn
      unfold f_MScriptRows_newField_L2 at h
      refine iq_iload_n hS 3 J_MScriptRows_newField_d2 l7 rfl ?_
      refine iq_bipush hS 5 J_MScriptRows_newField_d3 (v := 16) (by decide +kernel) rfl ?_
      refine iq_icmp_ge hS 8 J_MScriptRows_newField_d5 (t := 21) rfl (fun q5 => ?_) rfl (fun q5 => ?_)
      · replace h := ed_pos q5 h
        exact K1 _ _ hM5 l6 (lq_r h hq1)
      · replace h := ed_neg q5 h
        refine iq_aload_n hS 9 J_MScriptRows_newField_d8 l6 rfl ?_
        refine iq_getR hS 12 J_MScriptRows_newField_d9 lf_15_41 (Or.inr ⟨_, rfl⟩) (ka_71 hM5) (ra_71_27 hM5) rfl ?_
        refine iq_iload_n hS 13 J_MScriptRows_newField_d12 l7 rfl ?_
        refine iq_iconst hS 14 J_MScriptRows_newField_d13 (v := 0) (by decide +kernel) rfl ?_
        obtain ⟨g14, h⟩ := ed_gd h
        refine iq_iastore hS 15 J_MScriptRows_newField_d14 ⟨(ka_81 hM5).1, (ka_81 hM5).2, g14.1, ix_lt (kl_81 hM5) g14.2⟩ rfl ?_
        refine iq_iincv hS 18 J_MScriptRows_newField_d15 (c := 1) (by decide +kernel) l7 (by decide) rfl ?_
        refine iq_goto hS J_MScriptRows_newField_d18 (t := 2) rfl ?_
        exact ih _ _ _ hM5 (lk_1r l6 (by decide)) lk_1s (lq_l h)
  exact I1 n1 _ _ _ hM (lk_1r l0 (by decide)) lk_1s hn1
