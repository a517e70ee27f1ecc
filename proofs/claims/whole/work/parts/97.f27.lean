/-! METHODS AS FUNCTIONS -/
noncomputable def f_MLineRows_isRow_L2 (v2 : Int32) (x3 : Int32) (M4 : im_M) : Option ((Int32 × im_M) ⊕ ((im_M) ⊕ (Int32 × im_M))) := if v2 ≤ x3 then some (.inr (.inl M4)) else bd1 (f_MLineRows_sumOf ((6 : Int32) * x3) 6 M4) fun (x5 : Int32) => bd1 (f_MLineRows_counts ((6 : Int32) * x3) 6 x5 11 M4) fun (x6 : Int32) => bd1 (f_MLineRows_place x6 M4) fun (x7 : Int32) => gd (inb x3 140) <| gd (inb x3 140) <| if 0 ≤ (im_i (im_setI M4 105 (Int32.toNatClampNeg x3) x7) 105 (Int32.toNatClampNeg x3)) then some (.inl ((x3 + 1), (im_setI M4 105 (Int32.toNatClampNeg x3) x7))) else some (.inr (.inr (0, (im_setI M4 105 (Int32.toNatClampNeg x3) x7))))
noncomputable def f_MLineRows_isRow_L137 (v13 : Int32) (x14 : Int32) (x15 : Int32) (M16 : im_M) : Option ((Int32 × Int32 × im_M) ⊕ ((im_M) ⊕ (Int32 × im_M))) := if (v13 - 1) ≤ x15 then some (.inr (.inl M16)) else gd (inb x15 140) <| jn3 (fun (y40 : Int32) (y41 : Int32) (M42 : im_M) => some (.inl (y40, (y41 + 1), M42))) fun k17 => if ¬ (im_i M16 105 (Int32.toNatClampNeg x15)) = 102 then bd1 (f_MLineRows_goes x14 (im_i M16 105 (Int32.toNatClampNeg x15)) M16) fun (x18 : Int32) => jn1 (fun (y27 : Int32) => if ¬ y27 = 2 then if ¬ (im_i M16 105 (Int32.toNatClampNeg x15)) = 98 then if (im_i M16 105 (Int32.toNatClampNeg x15)) ≤ 95 then bd1 (f_MLineRows_signOf y27 (im_i M16 105 (Int32.toNatClampNeg x15)) M16) fun (x33 : Int32) => bd1 (f_MLineRows_tell x33 M16) fun (M34 : im_M) => k17 y27 x15 M34 else some (.inr (.inr (0, M16))) else if (x15 + 1) = (v13 - 1) then some (.inr (.inr (0, M16))) else gd (inb (x15 + 1) 140) <| if (im_i M16 105 (Int32.toNatClampNeg (x15 + 1))) ≤ 95 then gd (inb (x15 + 1) 140) <| bd1 (f_MLineRows_signOf ((1 : Int32) - y27) (im_i M16 105 (Int32.toNatClampNeg (x15 + 1))) M16) fun (x35 : Int32) => bd1 (f_MLineRows_tell x35 M16) fun (M36 : im_M) => k17 y27 (x15 + 1) M36 else some (.inr (.inr (0, M16))) else if (im_i M16 105 (Int32.toNatClampNeg x15)) ≤ 99 then bd1 (f_MLineRows_tell ((48 : Int32) + ((im_i M16 105 (Int32.toNatClampNeg x15)) / 10)) M16) fun (M37 : im_M) => bd1 (f_MLineRows_tell ((48 : Int32) + ((im_i M16 105 (Int32.toNatClampNeg x15)) - (im_i M16 105 (Int32.toNatClampNeg x15)) / 10 * 10)) M37) fun (M38 : im_M) => k17 y27 x15 M38 else some (.inr (.inr (0, M16)))) fun k19 => if x18 < 0 then k19 x14 else jn0 (fun (_ : Unit) => bd1 (f_MLineRows_goes x14 (im_i M16 105 (Int32.toNatClampNeg x15)) M16) fun (x26 : Int32) => k17 x26 x15 M16) fun k20 => if ¬ x14 = 2 then k20 () else if (im_i M16 105 (Int32.toNatClampNeg x15)) ≤ 99 then k19 x14 else k20 () else bd1 (f_MLineRows_tell 128 M16) fun (M39 : im_M) => k17 x14 x15 M39
noncomputable def f_MLineRows_isRow (p0 : Int32) (M : im_M) : Option (Int32 × im_M) := bs1 (lp (uc2 (f_MLineRows_isRow_L2 p0)) (0, M)) (fun (M8 : im_M) => bd1 (f_MLineRows_sumOf ((6 : Int32) * p0) 7 M8) fun (x9 : Int32) => bd1 (f_MLineRows_counts ((6 : Int32) * p0) 7 x9 13 M8) fun (x10 : Int32) => if ¬ x10 = 2331112 then some (0, M8) else gd (inb 0 140) <| if (im_i M8 105 (Int32.toNatClampNeg 0)) < 103 then some (0, M8) else gd (inb (p0 - 1) 140) <| bd1 (f_MLineRows_check_1 (p0 - 1) M8) fun (x11 : Int32) => if (im_i M8 105 (Int32.toNatClampNeg (p0 - 1))) = x11 then gd (inb 0 140) <| bs1 (lp (uc3 (f_MLineRows_isRow_L137 p0)) (((im_i M8 105 (Int32.toNatClampNeg 0)) - 103), 1, (im_setI M8 96 17 0))) (fun (M47 : im_M) => some (1, M47)) (fun t => some t) else some (0, M8)) (fun t => some t)
theorem J_MLineRows_isRow_d0 : decode J_MLineRows_isRow.2.1 0 = .ok (.iconst 0, 1) := by decide +kernel
theorem J_MLineRows_isRow_d1 : decode J_MLineRows_isRow.2.1 1 = .ok (.istore_n 2, 1) := by decide +kernel
theorem J_MLineRows_isRow_d2 : decode J_MLineRows_isRow.2.1 2 = .ok (.iload_n 2, 1) := by decide +kernel
theorem J_MLineRows_isRow_d3 : decode J_MLineRows_isRow.2.1 3 = .ok (.iload_n 1, 1) := by decide +kernel
theorem J_MLineRows_isRow_d4 : decode J_MLineRows_isRow.2.1 4 = .ok (.if_icmp .ge 55, 3) := by decide +kernel
theorem J_MLineRows_isRow_d7 : decode J_MLineRows_isRow.2.1 7 = .ok (.aload_n 0, 1) := by decide +kernel
theorem J_MLineRows_isRow_d8 : decode J_MLineRows_isRow.2.1 8 = .ok (.getfield 140, 3) := by decide +kernel
theorem J_MLineRows_isRow_d11 : decode J_MLineRows_isRow.2.1 11 = .ok (.iload_n 2, 1) := by decide +kernel
theorem J_MLineRows_isRow_d12 : decode J_MLineRows_isRow.2.1 12 = .ok (.aload_n 0, 1) := by decide +kernel
theorem J_MLineRows_isRow_d13 : decode J_MLineRows_isRow.2.1 13 = .ok (.getfield 113, 3) := by decide +kernel
theorem J_MLineRows_isRow_d16 : decode J_MLineRows_isRow.2.1 16 = .ok (.aload_n 0, 1) := by decide +kernel
theorem J_MLineRows_isRow_d17 : decode J_MLineRows_isRow.2.1 17 = .ok (.bipush 6, 2) := by decide +kernel
theorem J_MLineRows_isRow_d19 : decode J_MLineRows_isRow.2.1 19 = .ok (.iload_n 2, 1) := by decide +kernel
theorem J_MLineRows_isRow_d20 : decode J_MLineRows_isRow.2.1 20 = .ok (.imul, 1) := by decide +kernel
theorem J_MLineRows_isRow_d21 : decode J_MLineRows_isRow.2.1 21 = .ok (.bipush 6, 2) := by decide +kernel
theorem J_MLineRows_isRow_d23 : decode J_MLineRows_isRow.2.1 23 = .ok (.aload_n 0, 1) := by decide +kernel
theorem J_MLineRows_isRow_d24 : decode J_MLineRows_isRow.2.1 24 = .ok (.bipush 6, 2) := by decide +kernel
theorem J_MLineRows_isRow_d26 : decode J_MLineRows_isRow.2.1 26 = .ok (.iload_n 2, 1) := by decide +kernel
theorem J_MLineRows_isRow_d27 : decode J_MLineRows_isRow.2.1 27 = .ok (.imul, 1) := by decide +kernel
theorem J_MLineRows_isRow_d28 : decode J_MLineRows_isRow.2.1 28 = .ok (.bipush 6, 2) := by decide +kernel
theorem J_MLineRows_isRow_d30 : decode J_MLineRows_isRow.2.1 30 = .ok (.invokevirtual 240, 3) := by decide +kernel
theorem J_MLineRows_isRow_d33 : decode J_MLineRows_isRow.2.1 33 = .ok (.bipush 11, 2) := by decide +kernel
theorem J_MLineRows_isRow_d35 : decode J_MLineRows_isRow.2.1 35 = .ok (.invokevirtual 243, 3) := by decide +kernel
theorem J_MLineRows_isRow_d38 : decode J_MLineRows_isRow.2.1 38 = .ok (.invokestatic 247, 3) := by decide +kernel
theorem J_MLineRows_isRow_d41 : decode J_MLineRows_isRow.2.1 41 = .ok (.iastore, 1) := by decide +kernel
theorem J_MLineRows_isRow_d42 : decode J_MLineRows_isRow.2.1 42 = .ok (.aload_n 0, 1) := by decide +kernel
theorem J_MLineRows_isRow_d43 : decode J_MLineRows_isRow.2.1 43 = .ok (.getfield 140, 3) := by decide +kernel
theorem J_MLineRows_isRow_d46 : decode J_MLineRows_isRow.2.1 46 = .ok (.iload_n 2, 1) := by decide +kernel
theorem J_MLineRows_isRow_d47 : decode J_MLineRows_isRow.2.1 47 = .ok (.iaload, 1) := by decide +kernel
theorem J_MLineRows_isRow_d48 : decode J_MLineRows_isRow.2.1 48 = .ok (.ifCond .ge 5, 3) := by decide +kernel
theorem J_MLineRows_isRow_d51 : decode J_MLineRows_isRow.2.1 51 = .ok (.iconst 0, 1) := by decide +kernel
theorem J_MLineRows_isRow_d52 : decode J_MLineRows_isRow.2.1 52 = .ok (.ireturn, 1) := by decide +kernel
theorem J_MLineRows_isRow_d53 : decode J_MLineRows_isRow.2.1 53 = .ok (.iinc 2 1, 3) := by decide +kernel
theorem J_MLineRows_isRow_d56 : decode J_MLineRows_isRow.2.1 56 = .ok (.goto (-54), 3) := by decide +kernel
theorem J_MLineRows_isRow_d59 : decode J_MLineRows_isRow.2.1 59 = .ok (.aload_n 0, 1) := by decide +kernel
theorem J_MLineRows_isRow_d60 : decode J_MLineRows_isRow.2.1 60 = .ok (.bipush 6, 2) := by decide +kernel
theorem J_MLineRows_isRow_d62 : decode J_MLineRows_isRow.2.1 62 = .ok (.iload_n 1, 1) := by decide +kernel
theorem J_MLineRows_isRow_d63 : decode J_MLineRows_isRow.2.1 63 = .ok (.imul, 1) := by decide +kernel
theorem J_MLineRows_isRow_d64 : decode J_MLineRows_isRow.2.1 64 = .ok (.bipush 7, 2) := by decide +kernel
theorem J_MLineRows_isRow_d66 : decode J_MLineRows_isRow.2.1 66 = .ok (.aload_n 0, 1) := by decide +kernel
theorem J_MLineRows_isRow_d67 : decode J_MLineRows_isRow.2.1 67 = .ok (.bipush 6, 2) := by decide +kernel
theorem J_MLineRows_isRow_d69 : decode J_MLineRows_isRow.2.1 69 = .ok (.iload_n 1, 1) := by decide +kernel
theorem J_MLineRows_isRow_d70 : decode J_MLineRows_isRow.2.1 70 = .ok (.imul, 1) := by decide +kernel
theorem J_MLineRows_isRow_d71 : decode J_MLineRows_isRow.2.1 71 = .ok (.bipush 7, 2) := by decide +kernel
theorem J_MLineRows_isRow_d73 : decode J_MLineRows_isRow.2.1 73 = .ok (.invokevirtual 240, 3) := by decide +kernel
theorem J_MLineRows_isRow_d76 : decode J_MLineRows_isRow.2.1 76 = .ok (.bipush 13, 2) := by decide +kernel
theorem J_MLineRows_isRow_d78 : decode J_MLineRows_isRow.2.1 78 = .ok (.invokevirtual 243, 3) := by decide +kernel
theorem J_MLineRows_isRow_d81 : decode J_MLineRows_isRow.2.1 81 = .ok (.ldc 213, 2) := by decide +kernel
theorem J_MLineRows_isRow_d83 : decode J_MLineRows_isRow.2.1 83 = .ok (.if_icmp .ne 35, 3) := by decide +kernel
theorem J_MLineRows_isRow_d86 : decode J_MLineRows_isRow.2.1 86 = .ok (.aload_n 0, 1) := by decide +kernel
theorem J_MLineRows_isRow_d87 : decode J_MLineRows_isRow.2.1 87 = .ok (.getfield 140, 3) := by decide +kernel
theorem J_MLineRows_isRow_d90 : decode J_MLineRows_isRow.2.1 90 = .ok (.iconst 0, 1) := by decide +kernel
theorem J_MLineRows_isRow_d91 : decode J_MLineRows_isRow.2.1 91 = .ok (.iaload, 1) := by decide +kernel
theorem J_MLineRows_isRow_d92 : decode J_MLineRows_isRow.2.1 92 = .ok (.bipush 103, 2) := by decide +kernel
theorem J_MLineRows_isRow_d94 : decode J_MLineRows_isRow.2.1 94 = .ok (.if_icmp .lt 24, 3) := by decide +kernel
theorem J_MLineRows_isRow_d97 : decode J_MLineRows_isRow.2.1 97 = .ok (.aload_n 0, 1) := by decide +kernel
theorem J_MLineRows_isRow_d98 : decode J_MLineRows_isRow.2.1 98 = .ok (.getfield 140, 3) := by decide +kernel
theorem J_MLineRows_isRow_d101 : decode J_MLineRows_isRow.2.1 101 = .ok (.iload_n 1, 1) := by decide +kernel
theorem J_MLineRows_isRow_d102 : decode J_MLineRows_isRow.2.1 102 = .ok (.iconst 1, 1) := by decide +kernel
theorem J_MLineRows_isRow_d103 : decode J_MLineRows_isRow.2.1 103 = .ok (.isub, 1) := by decide +kernel
theorem J_MLineRows_isRow_d104 : decode J_MLineRows_isRow.2.1 104 = .ok (.iaload, 1) := by decide +kernel
theorem J_MLineRows_isRow_d105 : decode J_MLineRows_isRow.2.1 105 = .ok (.aload_n 0, 1) := by decide +kernel
theorem J_MLineRows_isRow_d106 : decode J_MLineRows_isRow.2.1 106 = .ok (.getfield 140, 3) := by decide +kernel
theorem J_MLineRows_isRow_d109 : decode J_MLineRows_isRow.2.1 109 = .ok (.iload_n 1, 1) := by decide +kernel
theorem J_MLineRows_isRow_d110 : decode J_MLineRows_isRow.2.1 110 = .ok (.iconst 1, 1) := by decide +kernel
theorem J_MLineRows_isRow_d111 : decode J_MLineRows_isRow.2.1 111 = .ok (.isub, 1) := by decide +kernel
theorem J_MLineRows_isRow_d112 : decode J_MLineRows_isRow.2.1 112 = .ok (.invokestatic 198, 3) := by decide +kernel
theorem J_MLineRows_isRow_d115 : decode J_MLineRows_isRow.2.1 115 = .ok (.if_icmp .eq 5, 3) := by decide +kernel
theorem J_MLineRows_isRow_d118 : decode J_MLineRows_isRow.2.1 118 = .ok (.iconst 0, 1) := by decide +kernel
theorem J_MLineRows_isRow_d119 : decode J_MLineRows_isRow.2.1 119 = .ok (.ireturn, 1) := by decide +kernel
theorem J_MLineRows_isRow_d120 : decode J_MLineRows_isRow.2.1 120 = .ok (.aload_n 0, 1) := by decide +kernel
theorem J_MLineRows_isRow_d121 : decode J_MLineRows_isRow.2.1 121 = .ok (.getfield 140, 3) := by decide +kernel
theorem J_MLineRows_isRow_d124 : decode J_MLineRows_isRow.2.1 124 = .ok (.iconst 0, 1) := by decide +kernel
theorem J_MLineRows_isRow_d125 : decode J_MLineRows_isRow.2.1 125 = .ok (.iaload, 1) := by decide +kernel
theorem J_MLineRows_isRow_d126 : decode J_MLineRows_isRow.2.1 126 = .ok (.bipush 103, 2) := by decide +kernel
theorem J_MLineRows_isRow_d128 : decode J_MLineRows_isRow.2.1 128 = .ok (.isub, 1) := by decide +kernel
theorem J_MLineRows_isRow_d129 : decode J_MLineRows_isRow.2.1 129 = .ok (.istore_n 2, 1) := by decide +kernel
theorem J_MLineRows_isRow_d130 : decode J_MLineRows_isRow.2.1 130 = .ok (.aload_n 0, 1) := by decide +kernel
theorem J_MLineRows_isRow_d131 : decode J_MLineRows_isRow.2.1 131 = .ok (.iconst 0, 1) := by decide +kernel
theorem J_MLineRows_isRow_d132 : decode J_MLineRows_isRow.2.1 132 = .ok (.putfield 250, 3) := by decide +kernel
theorem J_MLineRows_isRow_d135 : decode J_MLineRows_isRow.2.1 135 = .ok (.iconst 1, 1) := by decide +kernel
theorem J_MLineRows_isRow_d136 : decode J_MLineRows_isRow.2.1 136 = .ok (.istore_n 3, 1) := by decide +kernel
theorem J_MLineRows_isRow_d137 : decode J_MLineRows_isRow.2.1 137 = .ok (.iload_n 3, 1) := by decide +kernel
theorem J_MLineRows_isRow_d138 : decode J_MLineRows_isRow.2.1 138 = .ok (.iload_n 1, 1) := by decide +kernel
theorem J_MLineRows_isRow_d139 : decode J_MLineRows_isRow.2.1 139 = .ok (.iconst 1, 1) := by decide +kernel
theorem J_MLineRows_isRow_d140 : decode J_MLineRows_isRow.2.1 140 = .ok (.isub, 1) := by decide +kernel
theorem J_MLineRows_isRow_d141 : decode J_MLineRows_isRow.2.1 141 = .ok (.if_icmp .ge 174, 3) := by decide +kernel
theorem J_MLineRows_isRow_d144 : decode J_MLineRows_isRow.2.1 144 = .ok (.aload_n 0, 1) := by decide +kernel
theorem J_MLineRows_isRow_d145 : decode J_MLineRows_isRow.2.1 145 = .ok (.getfield 140, 3) := by decide +kernel
theorem J_MLineRows_isRow_d148 : decode J_MLineRows_isRow.2.1 148 = .ok (.iload_n 3, 1) := by decide +kernel
theorem J_MLineRows_isRow_d149 : decode J_MLineRows_isRow.2.1 149 = .ok (.iaload, 1) := by decide +kernel
theorem J_MLineRows_isRow_d150 : decode J_MLineRows_isRow.2.1 150 = .ok (.istore 4, 2) := by decide +kernel
theorem J_MLineRows_isRow_d152 : decode J_MLineRows_isRow.2.1 152 = .ok (.iload 4, 2) := by decide +kernel
theorem J_MLineRows_isRow_d154 : decode J_MLineRows_isRow.2.1 154 = .ok (.bipush 102, 2) := by decide +kernel
theorem J_MLineRows_isRow_d156 : decode J_MLineRows_isRow.2.1 156 = .ok (.if_icmp .ne 13, 3) := by decide +kernel
theorem J_MLineRows_isRow_d159 : decode J_MLineRows_isRow.2.1 159 = .ok (.aload_n 0, 1) := by decide +kernel
theorem J_MLineRows_isRow_d160 : decode J_MLineRows_isRow.2.1 160 = .ok (.sipush 128, 3) := by decide +kernel
theorem J_MLineRows_isRow_d163 : decode J_MLineRows_isRow.2.1 163 = .ok (.invokevirtual 253, 3) := by decide +kernel
theorem J_MLineRows_isRow_d166 : decode J_MLineRows_isRow.2.1 166 = .ok (.goto 143, 3) := by decide +kernel
theorem J_MLineRows_isRow_d169 : decode J_MLineRows_isRow.2.1 169 = .ok (.iload_n 2, 1) := by decide +kernel
theorem J_MLineRows_isRow_d170 : decode J_MLineRows_isRow.2.1 170 = .ok (.iload 4, 2) := by decide +kernel
theorem J_MLineRows_isRow_d172 : decode J_MLineRows_isRow.2.1 172 = .ok (.invokestatic 179, 3) := by decide +kernel
theorem J_MLineRows_isRow_d175 : decode J_MLineRows_isRow.2.1 175 = .ok (.ifCond .lt 25, 3) := by decide +kernel
theorem J_MLineRows_isRow_d178 : decode J_MLineRows_isRow.2.1 178 = .ok (.iload_n 2, 1) := by decide +kernel
theorem J_MLineRows_isRow_d179 : decode J_MLineRows_isRow.2.1 179 = .ok (.iconst 2, 1) := by decide +kernel
theorem J_MLineRows_isRow_d180 : decode J_MLineRows_isRow.2.1 180 = .ok (.if_icmp .ne 10, 3) := by decide +kernel
theorem J_MLineRows_isRow_d183 : decode J_MLineRows_isRow.2.1 183 = .ok (.iload 4, 2) := by decide +kernel
theorem J_MLineRows_isRow_d185 : decode J_MLineRows_isRow.2.1 185 = .ok (.bipush 99, 2) := by decide +kernel
theorem J_MLineRows_isRow_d187 : decode J_MLineRows_isRow.2.1 187 = .ok (.if_icmp .le 13, 3) := by decide +kernel
theorem J_MLineRows_isRow_d190 : decode J_MLineRows_isRow.2.1 190 = .ok (.iload_n 2, 1) := by decide +kernel
theorem J_MLineRows_isRow_d191 : decode J_MLineRows_isRow.2.1 191 = .ok (.iload 4, 2) := by decide +kernel
theorem J_MLineRows_isRow_d193 : decode J_MLineRows_isRow.2.1 193 = .ok (.invokestatic 179, 3) := by decide +kernel
theorem J_MLineRows_isRow_d196 : decode J_MLineRows_isRow.2.1 196 = .ok (.istore_n 2, 1) := by decide +kernel
theorem J_MLineRows_isRow_d197 : decode J_MLineRows_isRow.2.1 197 = .ok (.goto 112, 3) := by decide +kernel
theorem J_MLineRows_isRow_d200 : decode J_MLineRows_isRow.2.1 200 = .ok (.iload_n 2, 1) := by decide +kernel
theorem J_MLineRows_isRow_d201 : decode J_MLineRows_isRow.2.1 201 = .ok (.iconst 2, 1) := by decide +kernel
theorem J_MLineRows_isRow_d202 : decode J_MLineRows_isRow.2.1 202 = .ok (.if_icmp .ne 39, 3) := by decide +kernel
theorem J_MLineRows_isRow_d205 : decode J_MLineRows_isRow.2.1 205 = .ok (.iload 4, 2) := by decide +kernel
theorem J_MLineRows_isRow_d207 : decode J_MLineRows_isRow.2.1 207 = .ok (.bipush 99, 2) := by decide +kernel
theorem J_MLineRows_isRow_d209 : decode J_MLineRows_isRow.2.1 209 = .ok (.if_icmp .le 5, 3) := by decide +kernel
theorem J_MLineRows_isRow_d212 : decode J_MLineRows_isRow.2.1 212 = .ok (.iconst 0, 1) := by decide +kernel
theorem J_MLineRows_isRow_d213 : decode J_MLineRows_isRow.2.1 213 = .ok (.ireturn, 1) := by decide +kernel
theorem J_MLineRows_isRow_d214 : decode J_MLineRows_isRow.2.1 214 = .ok (.aload_n 0, 1) := by decide +kernel
theorem J_MLineRows_isRow_d215 : decode J_MLineRows_isRow.2.1 215 = .ok (.bipush 48, 2) := by decide +kernel
theorem J_MLineRows_isRow_d217 : decode J_MLineRows_isRow.2.1 217 = .ok (.iload 4, 2) := by decide +kernel
theorem J_MLineRows_isRow_d219 : decode J_MLineRows_isRow.2.1 219 = .ok (.bipush 10, 2) := by decide +kernel
theorem J_MLineRows_isRow_d221 : decode J_MLineRows_isRow.2.1 221 = .ok (.idiv, 1) := by decide +kernel
theorem J_MLineRows_isRow_d222 : decode J_MLineRows_isRow.2.1 222 = .ok (.iadd, 1) := by decide +kernel
theorem J_MLineRows_isRow_d223 : decode J_MLineRows_isRow.2.1 223 = .ok (.invokevirtual 253, 3) := by decide +kernel
theorem J_MLineRows_isRow_d226 : decode J_MLineRows_isRow.2.1 226 = .ok (.aload_n 0, 1) := by decide +kernel
theorem J_MLineRows_isRow_d227 : decode J_MLineRows_isRow.2.1 227 = .ok (.bipush 48, 2) := by decide +kernel
theorem J_MLineRows_isRow_d229 : decode J_MLineRows_isRow.2.1 229 = .ok (.iload 4, 2) := by decide +kernel
theorem J_MLineRows_isRow_d231 : decode J_MLineRows_isRow.2.1 231 = .ok (.bipush 10, 2) := by decide +kernel
theorem J_MLineRows_isRow_d233 : decode J_MLineRows_isRow.2.1 233 = .ok (.irem, 1) := by decide +kernel
theorem J_MLineRows_isRow_d234 : decode J_MLineRows_isRow.2.1 234 = .ok (.iadd, 1) := by decide +kernel
theorem J_MLineRows_isRow_d235 : decode J_MLineRows_isRow.2.1 235 = .ok (.invokevirtual 253, 3) := by decide +kernel
theorem J_MLineRows_isRow_d238 : decode J_MLineRows_isRow.2.1 238 = .ok (.goto 71, 3) := by decide +kernel
theorem J_MLineRows_isRow_d241 : decode J_MLineRows_isRow.2.1 241 = .ok (.iload 4, 2) := by decide +kernel
theorem J_MLineRows_isRow_d243 : decode J_MLineRows_isRow.2.1 243 = .ok (.bipush 98, 2) := by decide +kernel
theorem J_MLineRows_isRow_d245 : decode J_MLineRows_isRow.2.1 245 = .ok (.if_icmp .ne 45, 3) := by decide +kernel
theorem J_MLineRows_isRow_d248 : decode J_MLineRows_isRow.2.1 248 = .ok (.iinc 3 1, 3) := by decide +kernel
theorem J_MLineRows_isRow_d251 : decode J_MLineRows_isRow.2.1 251 = .ok (.iload_n 3, 1) := by decide +kernel
theorem J_MLineRows_isRow_d252 : decode J_MLineRows_isRow.2.1 252 = .ok (.iload_n 1, 1) := by decide +kernel
theorem J_MLineRows_isRow_d253 : decode J_MLineRows_isRow.2.1 253 = .ok (.iconst 1, 1) := by decide +kernel
theorem J_MLineRows_isRow_d254 : decode J_MLineRows_isRow.2.1 254 = .ok (.isub, 1) := by decide +kernel
theorem J_MLineRows_isRow_d255 : decode J_MLineRows_isRow.2.1 255 = .ok (.if_icmp .eq 14, 3) := by decide +kernel
theorem J_MLineRows_isRow_d258 : decode J_MLineRows_isRow.2.1 258 = .ok (.aload_n 0, 1) := by decide +kernel
theorem J_MLineRows_isRow_d259 : decode J_MLineRows_isRow.2.1 259 = .ok (.getfield 140, 3) := by decide +kernel
theorem J_MLineRows_isRow_d262 : decode J_MLineRows_isRow.2.1 262 = .ok (.iload_n 3, 1) := by decide +kernel
theorem J_MLineRows_isRow_d263 : decode J_MLineRows_isRow.2.1 263 = .ok (.iaload, 1) := by decide +kernel
theorem J_MLineRows_isRow_d264 : decode J_MLineRows_isRow.2.1 264 = .ok (.bipush 95, 2) := by decide +kernel
theorem J_MLineRows_isRow_d266 : decode J_MLineRows_isRow.2.1 266 = .ok (.if_icmp .le 5, 3) := by decide +kernel
theorem J_MLineRows_isRow_d269 : decode J_MLineRows_isRow.2.1 269 = .ok (.iconst 0, 1) := by decide +kernel
theorem J_MLineRows_isRow_d270 : decode J_MLineRows_isRow.2.1 270 = .ok (.ireturn, 1) := by decide +kernel
theorem J_MLineRows_isRow_d271 : decode J_MLineRows_isRow.2.1 271 = .ok (.aload_n 0, 1) := by decide +kernel
theorem J_MLineRows_isRow_d272 : decode J_MLineRows_isRow.2.1 272 = .ok (.iconst 1, 1) := by decide +kernel
theorem J_MLineRows_isRow_d273 : decode J_MLineRows_isRow.2.1 273 = .ok (.iload_n 2, 1) := by decide +kernel
theorem J_MLineRows_isRow_d274 : decode J_MLineRows_isRow.2.1 274 = .ok (.isub, 1) := by decide +kernel
theorem J_MLineRows_isRow_d275 : decode J_MLineRows_isRow.2.1 275 = .ok (.aload_n 0, 1) := by decide +kernel
theorem J_MLineRows_isRow_d276 : decode J_MLineRows_isRow.2.1 276 = .ok (.getfield 140, 3) := by decide +kernel
theorem J_MLineRows_isRow_d279 : decode J_MLineRows_isRow.2.1 279 = .ok (.iload_n 3, 1) := by decide +kernel
theorem J_MLineRows_isRow_d280 : decode J_MLineRows_isRow.2.1 280 = .ok (.iaload, 1) := by decide +kernel
theorem J_MLineRows_isRow_d281 : decode J_MLineRows_isRow.2.1 281 = .ok (.invokestatic 168, 3) := by decide +kernel
theorem J_MLineRows_isRow_d284 : decode J_MLineRows_isRow.2.1 284 = .ok (.invokevirtual 253, 3) := by decide +kernel
theorem J_MLineRows_isRow_d287 : decode J_MLineRows_isRow.2.1 287 = .ok (.goto 22, 3) := by decide +kernel
theorem J_MLineRows_isRow_d290 : decode J_MLineRows_isRow.2.1 290 = .ok (.iload 4, 2) := by decide +kernel
theorem J_MLineRows_isRow_d292 : decode J_MLineRows_isRow.2.1 292 = .ok (.bipush 95, 2) := by decide +kernel
theorem J_MLineRows_isRow_d294 : decode J_MLineRows_isRow.2.1 294 = .ok (.if_icmp .le 5, 3) := by decide +kernel
theorem J_MLineRows_isRow_d297 : decode J_MLineRows_isRow.2.1 297 = .ok (.iconst 0, 1) := by decide +kernel
theorem J_MLineRows_isRow_d298 : decode J_MLineRows_isRow.2.1 298 = .ok (.ireturn, 1) := by decide +kernel
theorem J_MLineRows_isRow_d299 : decode J_MLineRows_isRow.2.1 299 = .ok (.aload_n 0, 1) := by decide +kernel
theorem J_MLineRows_isRow_d300 : decode J_MLineRows_isRow.2.1 300 = .ok (.iload_n 2, 1) := by decide +kernel
theorem J_MLineRows_isRow_d301 : decode J_MLineRows_isRow.2.1 301 = .ok (.iload 4, 2) := by decide +kernel
theorem J_MLineRows_isRow_d303 : decode J_MLineRows_isRow.2.1 303 = .ok (.invokestatic 168, 3) := by decide +kernel
theorem J_MLineRows_isRow_d306 : decode J_MLineRows_isRow.2.1 306 = .ok (.invokevirtual 253, 3) := by decide +kernel
theorem J_MLineRows_isRow_d309 : decode J_MLineRows_isRow.2.1 309 = .ok (.iinc 3 1, 3) := by decide +kernel
theorem J_MLineRows_isRow_d312 : decode J_MLineRows_isRow.2.1 312 = .ok (.goto (-175), 3) := by decide +kernel
theorem J_MLineRows_isRow_d315 : decode J_MLineRows_isRow.2.1 315 = .ok (.iconst 1, 1) := by decide +kernel
theorem J_MLineRows_isRow_d316 : decode J_MLineRows_isRow.2.1 316 = .ok (.ireturn, 1) := by decide +kernel
theorem f_MLineRows_isRow_ok {L : Nat} {xs : Nat → Int32} {dep : Nat} {w : Bool} {p0 : Int32} {M : im_M} {Q : Int32 × im_M → Prop} (hM : lw_S w M) (h : ed (f_MLineRows_isRow p0 M) Q) : ia (tb_G L xs) (dep + 1) J_MLineRows_isRow (rwI w Q) (0, lv_args 0 [.ref 96, .int p0], [], M) := by
  have hS : im_St (tb_G L xs) (dep + 1) J_MLineRows_isRow (ia (tb_G L xs) (dep + 1) J_MLineRows_isRow (rwI w Q)) := ia_St
  unfold f_MLineRows_isRow at h
  have l0 : im_lk (lv_args 0 [.ref 96, .int p0]) 0 = some (.ref 96) := rfl
  have l1 : im_lk (lv_args 0 [.ref 96, .int p0]) 1 = some (.int p0) := rfl
  refine iq_iconst hS 1 J_MLineRows_isRow_d0 (v := 0) (by decide +kernel) rfl ?_
  refine iq_istore_n hS 2 J_MLineRows_isRow_d1 (by decide) rfl ?_
  obtain ⟨Q1, hQ1, hR1, h⟩ := bs1_ed h
  have K1 : ∀ (M2 : im_M) (L' : List (Nat × Value)), lw_S w M2 → im_lk L' 0 = some (.ref 96) → im_lk L' 1 = some (.int p0) → Q1 (.inl M2) → ia (tb_G L xs) (dep + 1) J_MLineRows_isRow (rwI w Q) (59, L', [], M2) := by
    intro M2 L' hM2 l3 l4 h
    replace h := hQ1 _ h
    refine iq_aload_n hS 60 J_MLineRows_isRow_d59 l3 rfl ?_
    refine iq_bipush hS 62 J_MLineRows_isRow_d60 (v := 6) (by decide +kernel) rfl ?_
    refine iq_iload_n hS 63 J_MLineRows_isRow_d62 l4 rfl ?_
    refine iq_imul hS 64 J_MLineRows_isRow_d63 rfl ?_
    refine iq_bipush hS 66 J_MLineRows_isRow_d64 (v := 7) (by decide +kernel) rfl ?_
    refine iq_aload_n hS 67 J_MLineRows_isRow_d66 l3 rfl ?_
    refine iq_bipush hS 69 J_MLineRows_isRow_d67 (v := 6) (by decide +kernel) rfl ?_
    refine iq_iload_n hS 70 J_MLineRows_isRow_d69 l4 rfl ?_
    refine iq_imul hS 71 J_MLineRows_isRow_d70 rfl ?_
    refine iq_bipush hS 73 J_MLineRows_isRow_d71 (v := 7) (by decide +kernel) rfl ?_
    obtain ⟨Q5, hQ5, h⟩ := bd1_ed h
    refine iq_cpI hS 76 J_MLineRows_isRow_d73 rfl (pr_inst (vs := [_, _]) lc_13_240 lT_508 rfl rfl (by decide) (by decide) rfl (Nat.le_of_ble_eq_true rfl) (Nat.le_of_ble_eq_true rfl) (fun _ => Or.inl (pr_b (ka_96 hM2) (by decide) rfl))) (f_MLineRows_sumOf_ok (dep := dep + 0) hM2 h) rfl ?_
    intro x5 h
    replace h := hQ5 _ h
    refine iq_bipush hS 78 J_MLineRows_isRow_d76 (v := 13) (by decide +kernel) rfl ?_
    obtain ⟨Q6, hQ6, h⟩ := bd1_ed h
    refine iq_cpI hS 81 J_MLineRows_isRow_d78 rfl (pr_inst (vs := [_, _, _, _]) lc_13_243 lT_509 rfl rfl (by decide) (by decide) rfl (Nat.le_of_ble_eq_true rfl) (Nat.le_of_ble_eq_true rfl) (fun _ => Or.inl (pr_b (ka_96 hM2) (by decide) rfl))) (f_MLineRows_counts_ok (dep := dep + 0) hM2 h) rfl ?_
    intro x6 h
    replace h := hQ6 _ h
    refine iq_ldc hS 83 J_MLineRows_isRow_d81 lk_13_213 rfl ?_
    refine iq_icmp_ne hS 86 J_MLineRows_isRow_d83 (t := 118) rfl (fun q83 => ?_) rfl (fun q83 => ?_)
    · replace h := ed_pos q83 h
      refine iq_iconst hS 119 J_MLineRows_isRow_d118 (v := 0) (by decide +kernel) rfl ?_
      exact iq_iret J_MLineRows_isRow_d119 rfl rfl ⟨_, rfl, hM2, ed_some h⟩
    · replace h := ed_neg q83 h
      refine iq_aload_n hS 87 J_MLineRows_isRow_d86 l3 rfl ?_
      refine iq_getR hS 90 J_MLineRows_isRow_d87 lf_13_140 (Or.inr ⟨_, rfl⟩) (ka_96 hM2) (ra_96_12 hM2) rfl ?_
      refine iq_iconst hS 91 J_MLineRows_isRow_d90 (v := 0) (by decide +kernel) rfl ?_
      obtain ⟨g91, h⟩ := ed_gd h
      refine iq_iaload hS 92 J_MLineRows_isRow_d91 ⟨(ka_105 hM2).1, (ka_105 hM2).2, g91.1, ix_lt (kl_105 hM2) g91.2⟩ rfl ?_
      refine iq_bipush hS 94 J_MLineRows_isRow_d92 (v := 103) (by decide +kernel) rfl ?_
      refine iq_icmp_lt hS 97 J_MLineRows_isRow_d94 (t := 118) rfl (fun q94 => ?_) rfl (fun q94 => ?_)
      · replace h := ed_pos q94 h
        refine iq_iconst hS 119 J_MLineRows_isRow_d118 (v := 0) (by decide +kernel) rfl ?_
        exact iq_iret J_MLineRows_isRow_d119 rfl rfl ⟨_, rfl, hM2, ed_some h⟩
      · replace h := ed_neg q94 h
        refine iq_aload_n hS 98 J_MLineRows_isRow_d97 l3 rfl ?_
        refine iq_getR hS 101 J_MLineRows_isRow_d98 lf_13_140 (Or.inr ⟨_, rfl⟩) (ka_96 hM2) (ra_96_12 hM2) rfl ?_
        refine iq_iload_n hS 102 J_MLineRows_isRow_d101 l4 rfl ?_
        refine iq_iconst hS 103 J_MLineRows_isRow_d102 (v := 1) (by decide +kernel) rfl ?_
        refine iq_isub hS 104 J_MLineRows_isRow_d103 rfl ?_
        obtain ⟨g104, h⟩ := ed_gd h
        refine iq_iaload hS 105 J_MLineRows_isRow_d104 ⟨(ka_105 hM2).1, (ka_105 hM2).2, g104.1, ix_lt (kl_105 hM2) g104.2⟩ rfl ?_
        refine iq_aload_n hS 106 J_MLineRows_isRow_d105 l3 rfl ?_
        refine iq_getR hS 109 J_MLineRows_isRow_d106 lf_13_140 (Or.inr ⟨_, rfl⟩) (ka_96 hM2) (ra_96_12 hM2) rfl ?_
        refine iq_iload_n hS 110 J_MLineRows_isRow_d109 l4 rfl ?_
        refine iq_iconst hS 111 J_MLineRows_isRow_d110 (v := 1) (by decide +kernel) rfl ?_
        refine iq_isub hS 112 J_MLineRows_isRow_d111 rfl ?_
        obtain ⟨Q7, hQ7, h⟩ := bd1_ed h
        refine iq_cpI hS 115 J_MLineRows_isRow_d112 rfl (pr_stat (vs := [_, _]) lc_13_198 lT_365 rfl rfl (by decide) rfl (Nat.le_of_ble_eq_true rfl) (Nat.le_of_ble_eq_true rfl)) (f_MLineRows_check_1_ok (dep := dep + 0) hM2 h) rfl ?_
        intro x7 h
        replace h := hQ7 _ h
        refine iq_icmp_eq hS 118 J_MLineRows_isRow_d115 (t := 120) rfl (fun q115 => ?_) rfl (fun q115 => ?_)
        · replace h := ed_pos q115 h
          refine iq_aload_n hS 121 J_MLineRows_isRow_d120 l3 rfl ?_
          refine iq_getR hS 124 J_MLineRows_isRow_d121 lf_13_140 (Or.inr ⟨_, rfl⟩) (ka_96 hM2) (ra_96_12 hM2) rfl ?_
          refine iq_iconst hS 125 J_MLineRows_isRow_d124 (v := 0) (by decide +kernel) rfl ?_
          obtain ⟨g125, h⟩ := ed_gd h
          refine iq_iaload hS 126 J_MLineRows_isRow_d125 ⟨(ka_105 hM2).1, (ka_105 hM2).2, g125.1, ix_lt (kl_105 hM2) g125.2⟩ rfl ?_
          refine iq_bipush hS 128 J_MLineRows_isRow_d126 (v := 103) (by decide +kernel) rfl ?_
          refine iq_isub hS 129 J_MLineRows_isRow_d128 rfl ?_
          refine iq_istore_n hS 130 J_MLineRows_isRow_d129 (by decide) rfl ?_
          refine iq_aload_n hS 131 J_MLineRows_isRow_d130 (lk_1r l3 (by decide)) rfl ?_
          refine iq_iconst hS 132 J_MLineRows_isRow_d131 (v := 0) (by decide +kernel) rfl ?_
          refine iq_putI hS 135 J_MLineRows_isRow_d132 lf_13_250 (Or.inl rfl) rfl (ka_96 hM2) rfl ?_
          refine iq_iconst hS 136 J_MLineRows_isRow_d135 (v := 1) (by decide +kernel) rfl ?_
          refine iq_istore_n hS 137 J_MLineRows_isRow_d136 (by decide) rfl ?_
          obtain ⟨Q8, hQ8, hR8, h⟩ := bs1_ed h
          have K8 : ∀ (M9 : im_M) (L' : List (Nat × Value)), lw_S w M9 → Q8 (.inl M9) → ia (tb_G L xs) (dep + 1) J_MLineRows_isRow (rwI w Q) (315, L', [], M9) := by
            intro M9 L' hM9  h
            replace h := hQ8 _ h
            refine iq_iconst hS 316 J_MLineRows_isRow_d315 (v := 1) (by decide +kernel) rfl ?_
            exact iq_iret J_MLineRows_isRow_d316 rfl rfl ⟨_, rfl, hM9, ed_some h⟩
          obtain ⟨r8, hr8, hq8⟩ := h
          obtain ⟨n8, hn8⟩ := lp_n hr8
          have I8 : ∀ (n : Nat) (x10 : Int32) (x11 : Int32) (M12 : im_M) (L' : List (Nat × Value)), lw_S w M12 → im_lk L' 0 = some (.ref 96) → im_lk L' 1 = some (.int p0) → im_lk L' 2 = some (.int x10) → im_lk L' 3 = some (.int x11) → lpn (uc3 (f_MLineRows_isRow_L137 p0)) n (x10, x11, M12) = some r8 → ia (tb_G L xs) (dep + 1) J_MLineRows_isRow (rwI w Q) (137, L', [], M12) := by
            intro n
            induction n with
            | zero => intro x10 x11 M12 L' hM12 l13 l14 l15 l16 hn; exact (lpn_0 hn).elim
            | succ n ih =>
              intro x10 x11 M12 L' hM12 l13 l14 l15 l16 hn
              have h := lpn_ed3 hn
              unfold f_MLineRows_isRow_L137 at h
              refine iq_iload_n hS 138 J_MLineRows_isRow_d137 l16 rfl ?_
              refine iq_iload_n hS 139 J_MLineRows_isRow_d138 l14 rfl ?_
              refine iq_iconst hS 140 J_MLineRows_isRow_d139 (v := 1) (by decide +kernel) rfl ?_
              refine iq_isub hS 141 J_MLineRows_isRow_d140 rfl ?_
              refine iq_icmp_ge hS 144 J_MLineRows_isRow_d141 (t := 315) rfl (fun q141 => ?_) rfl (fun q141 => ?_)
              · replace h := ed_pos q141 h
                exact K8 _ _ hM12  (lq_r h hq8)
              · replace h := ed_neg q141 h
                refine iq_aload_n hS 145 J_MLineRows_isRow_d144 l13 rfl ?_
                refine iq_getR hS 148 J_MLineRows_isRow_d145 lf_13_140 (Or.inr ⟨_, rfl⟩) (ka_96 hM12) (ra_96_12 hM12) rfl ?_
                refine iq_iload_n hS 149 J_MLineRows_isRow_d148 l16 rfl ?_
                obtain ⟨g149, h⟩ := ed_gd h
                refine iq_iaload hS 150 J_MLineRows_isRow_d149 ⟨(ka_105 hM12).1, (ka_105 hM12).2, g149.1, ix_lt (kl_105 hM12) g149.2⟩ rfl ?_
                refine iq_istore hS 152 J_MLineRows_isRow_d150 (by decide) rfl ?_
                refine iq_iload hS 154 J_MLineRows_isRow_d152 lk_1s rfl ?_
                refine iq_bipush hS 156 J_MLineRows_isRow_d154 (v := 102) (by decide +kernel) rfl ?_
                obtain ⟨k17, Q17, hQ17, hk17, h⟩ := jn3_ed h
                have J17 : ∀ (y40 : Int32) (y41 : Int32) (M42 : im_M) (L' : List (Nat × Value)), lw_S w M42 → im_lk L' 0 = some (.ref 96) → im_lk L' 1 = some (.int p0) → im_lk L' 2 = some (.int y40) → im_lk L' 3 = some (.int y41) → Q17 y40 y41 M42 → ia (tb_G L xs) (dep + 1) J_MLineRows_isRow (rwI w Q) (309, L', [], M42) := by
                  intro y40 y41 M42 L' hM42 l43 l44 l45 l46 h
                  replace h := hQ17 _ _ _ h
                  refine iq_iincv hS 312 J_MLineRows_isRow_d309 (c := 1) (by decide +kernel) l46 (by decide) rfl ?_
                  refine iq_goto hS J_MLineRows_isRow_d312 (t := 137) rfl ?_
                  exact ih _ _ _ _ hM42 (lk_1r l43 (by decide)) (lk_1i l44 (by decide)) (lk_1i l45 (by decide)) lk_1s (lq_l h)
                refine iq_icmp_ne hS 159 J_MLineRows_isRow_d156 (t := 169) rfl (fun q156 => ?_) rfl (fun q156 => ?_)
                · replace h := ed_pos q156 h
                  refine iq_iload_n hS 170 J_MLineRows_isRow_d169 (lk_1i l15 (by decide)) rfl ?_
                  refine iq_iload hS 172 J_MLineRows_isRow_d170 lk_1s rfl ?_
                  obtain ⟨Q18, hQ18, h⟩ := bd1_ed h
                  refine iq_cpI hS 175 J_MLineRows_isRow_d172 rfl (pr_stat (vs := [_, _]) lc_13_179 lT_362 rfl rfl (by decide) rfl (Nat.le_of_ble_eq_true rfl) (Nat.le_of_ble_eq_true rfl)) (f_MLineRows_goes_ok (dep := dep + 0) hM12 h) rfl ?_
                  intro x18 h
                  replace h := hQ18 _ h
                  obtain ⟨k19, Q19, hQ19, hk19, h⟩ := jn1_ed h
                  have J19 : ∀ (y27 : Int32) (L' : List (Nat × Value)), im_lk L' 0 = some (.ref 96) → im_lk L' 1 = some (.int p0) → im_lk L' 2 = some (.int y27) → im_lk L' 3 = some (.int x11) → im_lk L' 4 = some (.int (im_i M12 105 (Int32.toNatClampNeg x11))) → Q19 y27 → ia (tb_G L xs) (dep + 1) J_MLineRows_isRow (rwI w Q) (200, L', [], M12) := by
                    intro y27 L' l28 l29 l30 l31 l32 h
                    replace h := hQ19 _ h
                    refine iq_iload_n hS 201 J_MLineRows_isRow_d200 l30 rfl ?_
                    refine iq_iconst hS 202 J_MLineRows_isRow_d201 (v := 2) (by decide +kernel) rfl ?_
                    refine iq_icmp_ne hS 205 J_MLineRows_isRow_d202 (t := 241) rfl (fun q202 => ?_) rfl (fun q202 => ?_)
                    · replace h := ed_pos q202 h
                      refine iq_iload hS 243 J_MLineRows_isRow_d241 l32 rfl ?_
                      refine iq_bipush hS 245 J_MLineRows_isRow_d243 (v := 98) (by decide +kernel) rfl ?_
                      refine iq_icmp_ne hS 248 J_MLineRows_isRow_d245 (t := 290) rfl (fun q245 => ?_) rfl (fun q245 => ?_)
                      · replace h := ed_pos q245 h
                        refine iq_iload hS 292 J_MLineRows_isRow_d290 l32 rfl ?_
                        refine iq_bipush hS 294 J_MLineRows_isRow_d292 (v := 95) (by decide +kernel) rfl ?_
                        refine iq_icmp_le hS 297 J_MLineRows_isRow_d294 (t := 299) rfl (fun q294 => ?_) rfl (fun q294 => ?_)
                        · replace h := ed_pos q294 h
                          refine iq_aload_n hS 300 J_MLineRows_isRow_d299 l28 rfl ?_
                          refine iq_iload_n hS 301 J_MLineRows_isRow_d300 l30 rfl ?_
                          refine iq_iload hS 303 J_MLineRows_isRow_d301 l32 rfl ?_
                          obtain ⟨Q33, hQ33, h⟩ := bd1_ed h
                          refine iq_cpI hS 306 J_MLineRows_isRow_d303 rfl (pr_stat (vs := [_, _]) lc_13_168 lT_360 rfl rfl (by decide) rfl (Nat.le_of_ble_eq_true rfl) (Nat.le_of_ble_eq_true rfl)) (f_MLineRows_signOf_ok (dep := dep + 0) hM12 h) rfl ?_
                          intro x33 h
                          replace h := hQ33 _ h
                          obtain ⟨Q34, hQ34, h⟩ := bd1_ed h
                          refine iq_cwV hS 309 J_MLineRows_isRow_d306 rfl (pr_inst (vs := [_]) lc_13_253 lT_511 rfl rfl (by decide) (by decide) rfl (Nat.le_of_ble_eq_true rfl) (Nat.le_of_ble_eq_true rfl) (fun _ => Or.inl (pr_b (ka_96 hM12) (by decide) rfl))) (f_MLineRows_tell_ok (dep := dep + 0) hM12 h) rfl ?_
                          intro M34 hM34 h
                          replace h := hQ34 _ h
                          exact J17 _ _ _ _ hM34 l28 l29 l30 l31 (hk17 _ _ _ h)
                        · replace h := ed_neg q294 h
                          refine iq_iconst hS 298 J_MLineRows_isRow_d297 (v := 0) (by decide +kernel) rfl ?_
                          exact iq_iret J_MLineRows_isRow_d298 rfl rfl ⟨_, rfl, hM12, ed_some (hR8 _ (lq_r h hq8))⟩
                      · replace h := ed_neg q245 h
                        refine iq_iincv hS 251 J_MLineRows_isRow_d248 (c := 1) (by decide +kernel) l31 (by decide) rfl ?_
                        refine iq_iload_n hS 252 J_MLineRows_isRow_d251 lk_1s rfl ?_
                        refine iq_iload_n hS 253 J_MLineRows_isRow_d252 (lk_1i l29 (by decide)) rfl ?_
                        refine iq_iconst hS 254 J_MLineRows_isRow_d253 (v := 1) (by decide +kernel) rfl ?_
                        refine iq_isub hS 255 J_MLineRows_isRow_d254 rfl ?_
                        refine iq_icmp_eq hS 258 J_MLineRows_isRow_d255 (t := 269) rfl (fun q255 => ?_) rfl (fun q255 => ?_)
                        · replace h := ed_pos q255 h
                          refine iq_iconst hS 270 J_MLineRows_isRow_d269 (v := 0) (by decide +kernel) rfl ?_
                          exact iq_iret J_MLineRows_isRow_d270 rfl rfl ⟨_, rfl, hM12, ed_some (hR8 _ (lq_r h hq8))⟩
                        · replace h := ed_neg q255 h
                          refine iq_aload_n hS 259 J_MLineRows_isRow_d258 (lk_1r l28 (by decide)) rfl ?_
                          refine iq_getR hS 262 J_MLineRows_isRow_d259 lf_13_140 (Or.inr ⟨_, rfl⟩) (ka_96 hM12) (ra_96_12 hM12) rfl ?_
                          refine iq_iload_n hS 263 J_MLineRows_isRow_d262 lk_1s rfl ?_
                          obtain ⟨g263, h⟩ := ed_gd h
                          refine iq_iaload hS 264 J_MLineRows_isRow_d263 ⟨(ka_105 hM12).1, (ka_105 hM12).2, g263.1, ix_lt (kl_105 hM12) g263.2⟩ rfl ?_
                          refine iq_bipush hS 266 J_MLineRows_isRow_d264 (v := 95) (by decide +kernel) rfl ?_
                          refine iq_icmp_le hS 269 J_MLineRows_isRow_d266 (t := 271) rfl (fun q266 => ?_) rfl (fun q266 => ?_)
                          · replace h := ed_pos q266 h
                            refine iq_aload_n hS 272 J_MLineRows_isRow_d271 (lk_1r l28 (by decide)) rfl ?_
                            refine iq_iconst hS 273 J_MLineRows_isRow_d272 (v := 1) (by decide +kernel) rfl ?_
                            refine iq_iload_n hS 274 J_MLineRows_isRow_d273 (lk_1i l30 (by decide)) rfl ?_
                            refine iq_isub hS 275 J_MLineRows_isRow_d274 rfl ?_
                            refine iq_aload_n hS 276 J_MLineRows_isRow_d275 (lk_1r l28 (by decide)) rfl ?_
                            refine iq_getR hS 279 J_MLineRows_isRow_d276 lf_13_140 (Or.inr ⟨_, rfl⟩) (ka_96 hM12) (ra_96_12 hM12) rfl ?_
                            refine iq_iload_n hS 280 J_MLineRows_isRow_d279 lk_1s rfl ?_
                            obtain ⟨g280, h⟩ := ed_gd h
                            refine iq_iaload hS 281 J_MLineRows_isRow_d280 ⟨(ka_105 hM12).1, (ka_105 hM12).2, g280.1, ix_lt (kl_105 hM12) g280.2⟩ rfl ?_
                            obtain ⟨Q35, hQ35, h⟩ := bd1_ed h
                            refine iq_cpI hS 284 J_MLineRows_isRow_d281 rfl (pr_stat (vs := [_, _]) lc_13_168 lT_360 rfl rfl (by decide) rfl (Nat.le_of_ble_eq_true rfl) (Nat.le_of_ble_eq_true rfl)) (f_MLineRows_signOf_ok (dep := dep + 0) hM12 h) rfl ?_
                            intro x35 h
                            replace h := hQ35 _ h
                            obtain ⟨Q36, hQ36, h⟩ := bd1_ed h
                            refine iq_cwV hS 287 J_MLineRows_isRow_d284 rfl (pr_inst (vs := [_]) lc_13_253 lT_511 rfl rfl (by decide) (by decide) rfl (Nat.le_of_ble_eq_true rfl) (Nat.le_of_ble_eq_true rfl) (fun _ => Or.inl (pr_b (ka_96 hM12) (by decide) rfl))) (f_MLineRows_tell_ok (dep := dep + 0) hM12 h) rfl ?_
                            intro M36 hM36 h
                            replace h := hQ36 _ h
                            refine iq_goto hS J_MLineRows_isRow_d287 (t := 309) rfl ?_
                            exact J17 _ _ _ _ hM36 (lk_1r l28 (by decide)) (lk_1i l29 (by decide)) (lk_1i l30 (by decide)) lk_1s (hk17 _ _ _ h)
                          · replace h := ed_neg q266 h
                            refine iq_iconst hS 270 J_MLineRows_isRow_d269 (v := 0) (by decide +kernel) rfl ?_
                            exact iq_iret J_MLineRows_isRow_d270 rfl rfl ⟨_, rfl, hM12, ed_some (hR8 _ (lq_r h hq8))⟩
                    · replace h := ed_neg q202 h
                      refine iq_iload hS 207 J_MLineRows_isRow_d205 l32 rfl ?_
                      refine iq_bipush hS 209 J_MLineRows_isRow_d207 (v := 99) (by decide +kernel) rfl ?_
                      refine iq_icmp_le hS 212 J_MLineRows_isRow_d209 (t := 214) rfl (fun q209 => ?_) rfl (fun q209 => ?_)
                      · replace h := ed_pos q209 h
                        refine iq_aload_n hS 215 J_MLineRows_isRow_d214 l28 rfl ?_
                        refine iq_bipush hS 217 J_MLineRows_isRow_d215 (v := 48) (by decide +kernel) rfl ?_
                        refine iq_iload hS 219 J_MLineRows_isRow_d217 l32 rfl ?_
                        refine iq_bipush hS 221 J_MLineRows_isRow_d219 (v := 10) (by decide +kernel) rfl ?_
                        refine iq_idiv hS 222 J_MLineRows_isRow_d221 (by decide) rfl ?_
                        refine iq_iadd hS 223 J_MLineRows_isRow_d222 rfl ?_
                        obtain ⟨Q37, hQ37, h⟩ := bd1_ed h
                        refine iq_cwV hS 226 J_MLineRows_isRow_d223 rfl (pr_inst (vs := [_]) lc_13_253 lT_511 rfl rfl (by decide) (by decide) rfl (Nat.le_of_ble_eq_true rfl) (Nat.le_of_ble_eq_true rfl) (fun _ => Or.inl (pr_b (ka_96 hM12) (by decide) rfl))) (f_MLineRows_tell_ok (dep := dep + 0) hM12 h) rfl ?_
                        intro M37 hM37 h
                        replace h := hQ37 _ h
                        refine iq_aload_n hS 227 J_MLineRows_isRow_d226 l28 rfl ?_
                        refine iq_bipush hS 229 J_MLineRows_isRow_d227 (v := 48) (by decide +kernel) rfl ?_
                        refine iq_iload hS 231 J_MLineRows_isRow_d229 l32 rfl ?_
                        refine iq_bipush hS 233 J_MLineRows_isRow_d231 (v := 10) (by decide +kernel) rfl ?_
                        refine iq_irem hS 234 J_MLineRows_isRow_d233 (by decide) rfl ?_
                        refine iq_iadd hS 235 J_MLineRows_isRow_d234 rfl ?_
                        obtain ⟨Q38, hQ38, h⟩ := bd1_ed h
                        refine iq_cwV hS 238 J_MLineRows_isRow_d235 rfl (pr_inst (vs := [_]) lc_13_253 lT_511 rfl rfl (by decide) (by decide) rfl (Nat.le_of_ble_eq_true rfl) (Nat.le_of_ble_eq_true rfl) (fun _ => Or.inl (pr_b (ka_96 hM37) (by decide) rfl))) (f_MLineRows_tell_ok (dep := dep + 0) hM37 h) rfl ?_
                        intro M38 hM38 h
                        replace h := hQ38 _ h
                        refine iq_goto hS J_MLineRows_isRow_d238 (t := 309) rfl ?_
                        exact J17 _ _ _ _ hM38 l28 l29 l30 l31 (hk17 _ _ _ h)
                      · replace h := ed_neg q209 h
                        refine iq_iconst hS 213 J_MLineRows_isRow_d212 (v := 0) (by decide +kernel) rfl ?_
                        exact iq_iret J_MLineRows_isRow_d213 rfl rfl ⟨_, rfl, hM12, ed_some (hR8 _ (lq_r h hq8))⟩
                  refine iq_if_lt hS 178 J_MLineRows_isRow_d175 (t := 200) rfl (fun q175 => ?_) rfl (fun q175 => ?_)
                  · replace h := ed_pos q175 h
                    exact J19 _ _ (lk_1r l13 (by decide)) (lk_1i l14 (by decide)) (lk_1i l15 (by decide)) (lk_1i l16 (by decide)) lk_1s (hk19 _ h)
                  · replace h := ed_neg q175 h
                    refine iq_iload_n hS 179 J_MLineRows_isRow_d178 (lk_1i l15 (by decide)) rfl ?_
                    refine iq_iconst hS 180 J_MLineRows_isRow_d179 (v := 2) (by decide +kernel) rfl ?_
                    obtain ⟨k20, Q20, hQ20, hk20, h⟩ := jn0_ed h
                    have J20 : ∀  (L' : List (Nat × Value)), im_lk L' 0 = some (.ref 96) → im_lk L' 1 = some (.int p0) → im_lk L' 2 = some (.int x10) → im_lk L' 3 = some (.int x11) → im_lk L' 4 = some (.int (im_i M12 105 (Int32.toNatClampNeg x11))) → Q20 () → ia (tb_G L xs) (dep + 1) J_MLineRows_isRow (rwI w Q) (190, L', [], M12) := by
                      intro  L' l21 l22 l23 l24 l25 h
                      replace h := hQ20  h
                      refine iq_iload_n hS 191 J_MLineRows_isRow_d190 l23 rfl ?_
                      refine iq_iload hS 193 J_MLineRows_isRow_d191 l25 rfl ?_
                      obtain ⟨Q26, hQ26, h⟩ := bd1_ed h
                      refine iq_cpI hS 196 J_MLineRows_isRow_d193 rfl (pr_stat (vs := [_, _]) lc_13_179 lT_362 rfl rfl (by decide) rfl (Nat.le_of_ble_eq_true rfl) (Nat.le_of_ble_eq_true rfl)) (f_MLineRows_goes_ok (dep := dep + 0) hM12 h) rfl ?_
                      intro x26 h
                      replace h := hQ26 _ h
                      refine iq_istore_n hS 197 J_MLineRows_isRow_d196 (by decide) rfl ?_
                      refine iq_goto hS J_MLineRows_isRow_d197 (t := 309) rfl ?_
                      exact J17 _ _ _ _ hM12 (lk_1r l21 (by decide)) (lk_1i l22 (by decide)) lk_1s (lk_1i l24 (by decide)) (hk17 _ _ _ h)
                    refine iq_icmp_ne hS 183 J_MLineRows_isRow_d180 (t := 190) rfl (fun q180 => ?_) rfl (fun q180 => ?_)
                    · replace h := ed_pos q180 h
                      exact J20  _ (lk_1r l13 (by decide)) (lk_1i l14 (by decide)) (lk_1i l15 (by decide)) (lk_1i l16 (by decide)) lk_1s (hk20  h)
                    · replace h := ed_neg q180 h
                      refine iq_iload hS 185 J_MLineRows_isRow_d183 lk_1s rfl ?_
                      refine iq_bipush hS 187 J_MLineRows_isRow_d185 (v := 99) (by decide +kernel) rfl ?_
                      refine iq_icmp_le hS 190 J_MLineRows_isRow_d187 (t := 200) rfl (fun q187 => ?_) rfl (fun q187 => ?_)
                      · replace h := ed_pos q187 h
                        exact J19 _ _ (lk_1r l13 (by decide)) (lk_1i l14 (by decide)) (lk_1i l15 (by decide)) (lk_1i l16 (by decide)) lk_1s (hk19 _ h)
                      · replace h := ed_neg q187 h
                        exact J20  _ (lk_1r l13 (by decide)) (lk_1i l14 (by decide)) (lk_1i l15 (by decide)) (lk_1i l16 (by decide)) lk_1s (hk20  h)
                · replace h := ed_neg q156 h
                  refine iq_aload_n hS 160 J_MLineRows_isRow_d159 (lk_1r l13 (by decide)) rfl ?_
                  refine iq_sipush hS 163 J_MLineRows_isRow_d160 (v := 128) (by decide +kernel) rfl ?_
                  obtain ⟨Q39, hQ39, h⟩ := bd1_ed h
                  refine iq_cwV hS 166 J_MLineRows_isRow_d163 rfl (pr_inst (vs := [_]) lc_13_253 lT_511 rfl rfl (by decide) (by decide) rfl (Nat.le_of_ble_eq_true rfl) (Nat.le_of_ble_eq_true rfl) (fun _ => Or.inl (pr_b (ka_96 hM12) (by decide) rfl))) (f_MLineRows_tell_ok (dep := dep + 0) hM12 h) rfl ?_
                  intro M39 hM39 h
                  replace h := hQ39 _ h
                  refine iq_goto hS J_MLineRows_isRow_d166 (t := 309) rfl ?_
                  exact J17 _ _ _ _ hM39 (lk_1r l13 (by decide)) (lk_1i l14 (by decide)) (lk_1i l15 (by decide)) (lk_1i l16 (by decide)) (hk17 _ _ _ h)
          exact I8 n8 _ _ _ _ hM2 (lk_1r (lk_1r l3 (by decide)) (by decide)) (lk_1i (lk_1i l4 (by decide)) (by decide)) (lk_1i lk_1s (by decide)) lk_1s hn8
        · replace h := ed_neg q115 h
          refine iq_iconst hS 119 J_MLineRows_isRow_d118 (v := 0) (by decide +kernel) rfl ?_
          exact iq_iret J_MLineRows_isRow_d119 rfl rfl ⟨_, rfl, hM2, ed_some h⟩
  obtain ⟨r1, hr1, hq1⟩ := h
  obtain ⟨n1, hn1⟩ := lp_n hr1
  have I1 : ∀ (n : Nat) (x47 : Int32) (M48 : im_M) (L' : List (Nat × Value)), lw_S w M48 → im_lk L' 0 = some (.ref 96) → im_lk L' 1 = some (.int p0) → im_lk L' 2 = some (.int x47) → lpn (uc2 (f_MLineRows_isRow_L2 p0)) n (x47, M48) = some r1 → ia (tb_G L xs) (dep + 1) J_MLineRows_isRow (rwI w Q) (2, L', [], M48) := by
    intro n
    induction n with
    | zero => intro x47 M48 L' hM48 l49 l50 l51 hn; exact (lpn_0 hn).elim
    | succ n ih =>
      intro x47 M48 L' hM48 l49 l50 l51 hn
      have h := lpn_ed2 hn
      unfold f_MLineRows_isRow_L2 at h
      refine iq_iload_n hS 3 J_MLineRows_isRow_d2 l51 rfl ?_
      refine iq_iload_n hS 4 J_MLineRows_isRow_d3 l50 rfl ?_
      refine iq_icmp_ge hS 7 J_MLineRows_isRow_d4 (t := 59) rfl (fun q4 => ?_) rfl (fun q4 => ?_)
      · replace h := ed_pos q4 h
        exact K1 _ _ hM48 l49 l50 (lq_r h hq1)
      · replace h := ed_neg q4 h
        refine iq_aload_n hS 8 J_MLineRows_isRow_d7 l49 rfl ?_
        refine iq_getR hS 11 J_MLineRows_isRow_d8 lf_13_140 (Or.inr ⟨_, rfl⟩) (ka_96 hM48) (ra_96_12 hM48) rfl ?_
        refine iq_iload_n hS 12 J_MLineRows_isRow_d11 l51 rfl ?_
        refine iq_aload_n hS 13 J_MLineRows_isRow_d12 l49 rfl ?_
        refine iq_getR hS 16 J_MLineRows_isRow_d13 lf_13_113 (Or.inr ⟨_, rfl⟩) (ka_96 hM48) (ra_96_0 hM48) rfl ?_
        refine iq_aload_n hS 17 J_MLineRows_isRow_d16 l49 rfl ?_
        refine iq_bipush hS 19 J_MLineRows_isRow_d17 (v := 6) (by decide +kernel) rfl ?_
        refine iq_iload_n hS 20 J_MLineRows_isRow_d19 l51 rfl ?_
        refine iq_imul hS 21 J_MLineRows_isRow_d20 rfl ?_
        refine iq_bipush hS 23 J_MLineRows_isRow_d21 (v := 6) (by decide +kernel) rfl ?_
        refine iq_aload_n hS 24 J_MLineRows_isRow_d23 l49 rfl ?_
        refine iq_bipush hS 26 J_MLineRows_isRow_d24 (v := 6) (by decide +kernel) rfl ?_
        refine iq_iload_n hS 27 J_MLineRows_isRow_d26 l51 rfl ?_
        refine iq_imul hS 28 J_MLineRows_isRow_d27 rfl ?_
        refine iq_bipush hS 30 J_MLineRows_isRow_d28 (v := 6) (by decide +kernel) rfl ?_
        obtain ⟨Q52, hQ52, h⟩ := bd1_ed h
        refine iq_cpI hS 33 J_MLineRows_isRow_d30 rfl (pr_inst (vs := [_, _]) lc_13_240 lT_508 rfl rfl (by decide) (by decide) rfl (Nat.le_of_ble_eq_true rfl) (Nat.le_of_ble_eq_true rfl) (fun _ => Or.inl (pr_b (ka_96 hM48) (by decide) rfl))) (f_MLineRows_sumOf_ok (dep := dep + 0) hM48 h) rfl ?_
        intro x52 h
        replace h := hQ52 _ h
        refine iq_bipush hS 35 J_MLineRows_isRow_d33 (v := 11) (by decide +kernel) rfl ?_
        obtain ⟨Q53, hQ53, h⟩ := bd1_ed h
        refine iq_cpI hS 38 J_MLineRows_isRow_d35 rfl (pr_inst (vs := [_, _, _, _]) lc_13_243 lT_509 rfl rfl (by decide) (by decide) rfl (Nat.le_of_ble_eq_true rfl) (Nat.le_of_ble_eq_true rfl) (fun _ => Or.inl (pr_b (ka_96 hM48) (by decide) rfl))) (f_MLineRows_counts_ok (dep := dep + 0) hM48 h) rfl ?_
        intro x53 h
        replace h := hQ53 _ h
        obtain ⟨Q54, hQ54, h⟩ := bd1_ed h
        refine iq_cpI hS 41 J_MLineRows_isRow_d38 rfl (pr_stat (vs := [_, _]) lc_13_247 lT_510 rfl rfl (by decide) rfl (Nat.le_of_ble_eq_true rfl) (Nat.le_of_ble_eq_true rfl)) (f_MLineRows_place_ok (dep := dep + 0) hM48 h) rfl ?_
        intro x54 h
        replace h := hQ54 _ h
        obtain ⟨g41, h⟩ := ed_gd h
        refine iq_iastore hS 42 J_MLineRows_isRow_d41 ⟨(ka_105 hM48).1, (ka_105 hM48).2, g41.1, ix_lt (kl_105 hM48) g41.2⟩ rfl ?_
        refine iq_aload_n hS 43 J_MLineRows_isRow_d42 l49 rfl ?_
        refine iq_getR hS 46 J_MLineRows_isRow_d43 lf_13_140 (Or.inr ⟨_, rfl⟩) (ka_96 hM48) (ra_96_12 hM48) rfl ?_
        refine iq_iload_n hS 47 J_MLineRows_isRow_d46 l51 rfl ?_
        obtain ⟨g47, h⟩ := ed_gd h
        refine iq_iaload hS 48 J_MLineRows_isRow_d47 ⟨(ka_105 hM48).1, (ka_105 hM48).2, g47.1, ix_lt (kl_105 hM48) g47.2⟩ rfl ?_
        refine iq_if_ge hS 51 J_MLineRows_isRow_d48 (t := 53) rfl (fun q48 => ?_) rfl (fun q48 => ?_)
        · replace h := ed_pos q48 h
          refine iq_iincv hS 56 J_MLineRows_isRow_d53 (c := 1) (by decide +kernel) l51 (by decide) rfl ?_
          refine iq_goto hS J_MLineRows_isRow_d56 (t := 2) rfl ?_
          exact ih _ _ _ hM48 (lk_1r l49 (by decide)) (lk_1i l50 (by decide)) lk_1s (lq_l h)
        · replace h := ed_neg q48 h
          refine iq_iconst hS 52 J_MLineRows_isRow_d51 (v := 0) (by decide +kernel) rfl ?_
          exact iq_iret J_MLineRows_isRow_d52 rfl rfl ⟨_, rfl, hM48, ed_some (hR1 _ (lq_r h hq1))⟩
  exact I1 n1 _ _ _ hM (lk_1r l0 (by decide)) (lk_1i l1 (by decide)) lk_1s hn1
noncomputable def f_MLineRows_place_1_L2 (v2 : Int32) (M4 : im_M) (x3 : Int32) : Option ((Int32) ⊕ ((Unit) ⊕ (Int32))) := if 10 ≤ x3 then some (.inr (.inl ())) else gd (inb x3 10) <| if ¬ (im_i M4 98 (Int32.toNatClampNeg x3)) = v2 then some (.inl (x3 + 1)) else some (.inr (.inr x3))
noncomputable def f_MLineRows_place_1 (p1 : Int32) (M : im_M) : Option (Int32) := bs0 (lp (uc1 (f_MLineRows_place_1_L2 p1 M)) 0) (fun (_ : Unit) => some (-1)) (fun t => some t)
theorem f_MLineRows_place_1_ok {L : Nat} {xs : Nat → Int32} {dep : Nat} {w : Bool} {p1 : Int32} {M : im_M} {Q : Int32 → Prop} (hM : lw_S w M) (h : ed (f_MLineRows_place_1 p1 M) Q) : ia (tb_G L xs) dep J_MLineRows_place (rpI M Q) (0, lv_args 0 [.ref 98, .int p1], [], M) := by
  have hS : im_St (tb_G L xs) dep J_MLineRows_place (ia (tb_G L xs) dep J_MLineRows_place (rpI M Q)) := ia_St
  unfold f_MLineRows_place_1 at h
  have l0 : im_lk (lv_args 0 [.ref 98, .int p1]) 0 = some (.ref 98) := rfl
  have l1 : im_lk (lv_args 0 [.ref 98, .int p1]) 1 = some (.int p1) := rfl
  refine iq_iconst hS 1 J_MLineRows_place_d0 (v := 0) (by decide +kernel) rfl ?_
  refine iq_istore_n hS 2 J_MLineRows_place_d1 (by decide) rfl ?_
  obtain ⟨Q1, hQ1, hR1, h⟩ := bs0_ed h
  have K1 : ∀  (L' : List (Nat × Value)), Q1 (.inl ()) → ia (tb_G L xs) dep J_MLineRows_place (rpI M Q) (23, L', [], M) := by
    intro  L'  h
    replace h := hQ1  h
    refine iq_iconst hS 24 J_MLineRows_place_d23 (v := (-1)) (by decide +kernel) rfl ?_
    exact iq_iret J_MLineRows_place_d24 rfl rfl ⟨_, rfl, rfl, ed_some h⟩
  obtain ⟨r1, hr1, hq1⟩ := h
  obtain ⟨n1, hn1⟩ := lp_n hr1
  have I1 : ∀ (n : Nat) (x2 : Int32) (L' : List (Nat × Value)), im_lk L' 0 = some (.ref 98) → im_lk L' 1 = some (.int p1) → im_lk L' 2 = some (.int x2) → lpn (uc1 (f_MLineRows_place_1_L2 p1 M)) n x2 = some r1 → ia (tb_G L xs) dep J_MLineRows_place (rpI M Q) (2, L', [], M) := by
    intro n
    induction n with
    | zero => intro x2 L' l3 l4 l5 hn; exact (lpn_0 hn).elim
    | succ n ih =>
      intro x2 L' l3 l4 l5 hn
      have h := lpn_ed1 hn
      unfold f_MLineRows_place_1_L2 at h
      refine iq_iload_n hS 3 J_MLineRows_place_d2 l5 rfl ?_
      refine iq_aload_n hS 4 J_MLineRows_place_d3 l3 rfl ?_
      refine iq_alenv hS 5 J_MLineRows_place_d4 (v := 10) (ka_98 hM) (by decide) (by decide) (kl_98 hM) (by decide +kernel) rfl ?_
      refine iq_icmp_ge hS 8 J_MLineRows_place_d5 (t := 23) rfl (fun q5 => ?_) rfl (fun q5 => ?_)
      · replace h := ed_pos q5 h
        exact K1  _  (lq_r h hq1)
      · replace h := ed_neg q5 h
        refine iq_aload_n hS 9 J_MLineRows_place_d8 l3 rfl ?_
        refine iq_iload_n hS 10 J_MLineRows_place_d9 l5 rfl ?_
        obtain ⟨g10, h⟩ := ed_gd h
        refine iq_iaload hS 11 J_MLineRows_place_d10 ⟨(ka_98 hM).1, (ka_98 hM).2, g10.1, ix_lt (kl_98 hM) g10.2⟩ rfl ?_
        refine iq_iload_n hS 12 J_MLineRows_place_d11 l4 rfl ?_
        refine iq_icmp_ne hS 15 J_MLineRows_place_d12 (t := 17) rfl (fun q12 => ?_) rfl (fun q12 => ?_)
        · replace h := ed_pos q12 h
          refine iq_iincv hS 20 J_MLineRows_place_d17 (c := 1) (by decide +kernel) l5 (by decide) rfl ?_
          refine iq_goto hS J_MLineRows_place_d20 (t := 2) rfl ?_
          exact ih _ _ (lk_1r l3 (by decide)) (lk_1i l4 (by decide)) lk_1s (lq_l h)
        · replace h := ed_neg q12 h
          refine iq_iload_n hS 16 J_MLineRows_place_d15 l5 rfl ?_
          exact iq_iret J_MLineRows_place_d16 rfl rfl ⟨_, rfl, rfl, ed_some (hR1 _ (lq_r h hq1))⟩
  exact I1 n1 _ _ (lk_1r l0 (by decide)) (lk_1i l1 (by decide)) lk_1s hn1
noncomputable def f_MLineRows_place_2_L2 (v2 : Int32) (M4 : im_M) (x3 : Int32) : Option ((Int32) ⊕ ((Unit) ⊕ (Int32))) := if 10 ≤ x3 then some (.inr (.inl ())) else gd (inb x3 10) <| if ¬ (im_i M4 99 (Int32.toNatClampNeg x3)) = v2 then some (.inl (x3 + 1)) else some (.inr (.inr x3))
noncomputable def f_MLineRows_place_2 (p1 : Int32) (M : im_M) : Option (Int32) := bs0 (lp (uc1 (f_MLineRows_place_2_L2 p1 M)) 0) (fun (_ : Unit) => some (-1)) (fun t => some t)
theorem f_MLineRows_place_2_ok {L : Nat} {xs : Nat → Int32} {dep : Nat} {w : Bool} {p1 : Int32} {M : im_M} {Q : Int32 → Prop} (hM : lw_S w M) (h : ed (f_MLineRows_place_2 p1 M) Q) : ia (tb_G L xs) dep J_MLineRows_place (rpI M Q) (0, lv_args 0 [.ref 99, .int p1], [], M) := by
  have hS : im_St (tb_G L xs) dep J_MLineRows_place (ia (tb_G L xs) dep J_MLineRows_place (rpI M Q)) := ia_St
  unfold f_MLineRows_place_2 at h
  have l0 : im_lk (lv_args 0 [.ref 99, .int p1]) 0 = some (.ref 99) := rfl
  have l1 : im_lk (lv_args 0 [.ref 99, .int p1]) 1 = some (.int p1) := rfl
  refine iq_iconst hS 1 J_MLineRows_place_d0 (v := 0) (by decide +kernel) rfl ?_
  refine iq_istore_n hS 2 J_MLineRows_place_d1 (by decide) rfl ?_
  obtain ⟨Q1, hQ1, hR1, h⟩ := bs0_ed h
  have K1 : ∀  (L' : List (Nat × Value)), Q1 (.inl ()) → ia (tb_G L xs) dep J_MLineRows_place (rpI M Q) (23, L', [], M) := by
    intro  L'  h
    replace h := hQ1  h
    refine iq_iconst hS 24 J_MLineRows_place_d23 (v := (-1)) (by decide +kernel) rfl ?_
    exact iq_iret J_MLineRows_place_d24 rfl rfl ⟨_, rfl, rfl, ed_some h⟩
  obtain ⟨r1, hr1, hq1⟩ := h
  obtain ⟨n1, hn1⟩ := lp_n hr1
  have I1 : ∀ (n : Nat) (x2 : Int32) (L' : List (Nat × Value)), im_lk L' 0 = some (.ref 99) → im_lk L' 1 = some (.int p1) → im_lk L' 2 = some (.int x2) → lpn (uc1 (f_MLineRows_place_2_L2 p1 M)) n x2 = some r1 → ia (tb_G L xs) dep J_MLineRows_place (rpI M Q) (2, L', [], M) := by
    intro n
    induction n with
    | zero => intro x2 L' l3 l4 l5 hn; exact (lpn_0 hn).elim
    | succ n ih =>
      intro x2 L' l3 l4 l5 hn
      have h := lpn_ed1 hn
      unfold f_MLineRows_place_2_L2 at h
      refine iq_iload_n hS 3 J_MLineRows_place_d2 l5 rfl ?_
      refine iq_aload_n hS 4 J_MLineRows_place_d3 l3 rfl ?_
      refine iq_alenv hS 5 J_MLineRows_place_d4 (v := 10) (ka_99 hM) (by decide) (by decide) (kl_99 hM) (by decide +kernel) rfl ?_
      refine iq_icmp_ge hS 8 J_MLineRows_place_d5 (t := 23) rfl (fun q5 => ?_) rfl (fun q5 => ?_)
      · replace h := ed_pos q5 h
        exact K1  _  (lq_r h hq1)
      · replace h := ed_neg q5 h
        refine iq_aload_n hS 9 J_MLineRows_place_d8 l3 rfl ?_
        refine iq_iload_n hS 10 J_MLineRows_place_d9 l5 rfl ?_
        obtain ⟨g10, h⟩ := ed_gd h
        refine iq_iaload hS 11 J_MLineRows_place_d10 ⟨(ka_99 hM).1, (ka_99 hM).2, g10.1, ix_lt (kl_99 hM) g10.2⟩ rfl ?_
        refine iq_iload_n hS 12 J_MLineRows_place_d11 l4 rfl ?_
        refine iq_icmp_ne hS 15 J_MLineRows_place_d12 (t := 17) rfl (fun q12 => ?_) rfl (fun q12 => ?_)
        · replace h := ed_pos q12 h
          refine iq_iincv hS 20 J_MLineRows_place_d17 (c := 1) (by decide +kernel) l5 (by decide) rfl ?_
          refine iq_goto hS J_MLineRows_place_d20 (t := 2) rfl ?_
          exact ih _ _ (lk_1r l3 (by decide)) (lk_1i l4 (by decide)) lk_1s (lq_l h)
        · replace h := ed_neg q12 h
          refine iq_iload_n hS 16 J_MLineRows_place_d15 l5 rfl ?_
          exact iq_iret J_MLineRows_place_d16 rfl rfl ⟨_, rfl, rfl, ed_some (hR1 _ (lq_r h hq1))⟩
  exact I1 n1 _ _ (lk_1r l0 (by decide)) (lk_1i l1 (by decide)) lk_1s hn1
noncomputable def f_MLineRows_isThirteen_L59 (x6 : Int32) (x7 : Int32) (M8 : im_M) : Option ((Int32 × Int32 × im_M) ⊕ ((Int32 × im_M) ⊕ (Int32 × im_M))) := if 13 < x7 then some (.inr (.inl (x6, M8))) else bd1 (f_MLineRows_sumOf ((if 8 ≤ x7 then ((32 : Int32) + ((4 : Int32) * (x7 - 8))) else ((3 : Int32) + ((4 : Int32) * (x7 - 2)))) : Int32) 4 M8) fun (x10 : Int32) => bd1 (f_MLineRows_counts ((if 8 ≤ x7 then ((32 : Int32) + ((4 : Int32) * (x7 - 8))) else ((3 : Int32) + ((4 : Int32) * (x7 - 2)))) : Int32) 4 x10 7 M8) fun (x11 : Int32) => bd1 (f_MLineRows_place_1 x11 M8) fun (x12 : Int32) => jn0 (fun (_ : Unit) => bd1 (if ((if 0 ≤ x12 then 0 else 1) : Int32) = 0 then some x11 else bd1 (f_MLineRows_reversed x11 M8) fun (x23 : Int32) => some x23) fun (y24 : Int32) => bd1 (f_MLineRows_place_1 y24 M8) fun (x29 : Int32) => gd (inb x7 140) <| some (.inl (((if 8 ≤ x7 then x6 else (if ((if 0 ≤ x12 then 0 else 1) : Int32) = 0 then (((2 : Int32) * x6) + 0) else (((2 : Int32) * x6) + 1))) : Int32), (x7 + 1), (im_setI M8 105 (Int32.toNatClampNeg x7) x29)))) fun k14 => if ((if 0 ≤ x12 then 0 else 1) : Int32) = 0 then k14 () else if 7 < x7 then some (.inr (.inr (0, M8))) else bd1 (f_MLineRows_reversed x11 M8) fun (x15 : Int32) => bd1 (f_MLineRows_place_1 x15 M8) fun (x16 : Int32) => if 0 ≤ x16 then k14 () else some (.inr (.inr (0, M8)))
noncomputable def f_MLineRows_isThirteen_L240 (M37 : im_M) (x35 : Int32) (x36 : Int32) : Option ((Int32 × Int32) ⊕ (Int32)) := if 13 < x36 then some (.inr x35) else gd (inb x36 140) <| some (.inl ((x35 + (((if ¬ (x36 - x36 / 2 * 2) = 1 then 3 else 1) : Int32) * (im_i M37 105 (Int32.toNatClampNeg x36)))), (x36 + 1)))
noncomputable def f_MLineRows_isThirteen_L303 (x41 : Int32) (M42 : im_M) : Option ((Int32 × im_M) ⊕ (im_M)) := if 13 < x41 then some (.inr M42) else gd (inb x41 140) <| bd1 (f_MLineRows_tell ((48 : Int32) + (im_i M42 105 (Int32.toNatClampNeg x41))) M42) fun (M43 : im_M) => some (.inl ((x41 + 1), M43))
noncomputable def f_MLineRows_isThirteen (M : im_M) : Option (Int32 × im_M) := bd1 (f_MLineRows_sumOf 0 59 M) fun (x1 : Int32) => bd1 (f_MLineRows_counts 0 3 x1 95 M) fun (x2 : Int32) => if ¬ x2 = 111 then some (0, M) else bd1 (f_MLineRows_counts 27 5 x1 95 M) fun (x3 : Int32) => if ¬ x3 = 11111 then some (0, M) else bd1 (f_MLineRows_counts 56 3 x1 95 M) fun (x4 : Int32) => if x4 = 111 then bs2 (lp (uc3 (f_MLineRows_isThirteen_L59)) (0, 2, M)) (fun (y31 : Int32) (M32 : im_M) => bd1 (f_MLineRows_place_2 y31 M32) fun (x33 : Int32) => gd (inb 1 140) <| gd (inb 1 140) <| bd1 (lp (uc2 (f_MLineRows_isThirteen_L240 (im_setI M32 105 (Int32.toNatClampNeg 1) x33))) ((im_i (im_setI M32 105 (Int32.toNatClampNeg 1) x33) 105 (Int32.toNatClampNeg 1)), 2)) fun (y39 : Int32) => gd (inb 1 140) <| if (im_i (im_setI M32 105 (Int32.toNatClampNeg 1) x33) 105 (Int32.toNatClampNeg 1)) < 0 then some (0, (im_setI M32 105 (Int32.toNatClampNeg 1) x33)) else if (y39 - y39 / 10 * 10) = 0 then bd1 (lp (uc2 (f_MLineRows_isThirteen_L303)) (1, (im_setI (im_setI M32 105 (Int32.toNatClampNeg 1) x33) 96 17 0))) fun (M44 : im_M) => some (1, M44) else some (0, (im_setI M32 105 (Int32.toNatClampNeg 1) x33))) (fun t => some t) else some (0, M)
theorem J_MLineRows_isThirteen_d0 : decode J_MLineRows_isThirteen.2.1 0 = .ok (.aload_n 0, 1) := by decide +kernel
theorem J_MLineRows_isThirteen_d1 : decode J_MLineRows_isThirteen.2.1 1 = .ok (.iconst 0, 1) := by decide +kernel
theorem J_MLineRows_isThirteen_d2 : decode J_MLineRows_isThirteen.2.1 2 = .ok (.bipush 59, 2) := by decide +kernel
theorem J_MLineRows_isThirteen_d4 : decode J_MLineRows_isThirteen.2.1 4 = .ok (.invokevirtual 240, 3) := by decide +kernel
theorem J_MLineRows_isThirteen_d7 : decode J_MLineRows_isThirteen.2.1 7 = .ok (.istore_n 1, 1) := by decide +kernel
theorem J_MLineRows_isThirteen_d8 : decode J_MLineRows_isThirteen.2.1 8 = .ok (.aload_n 0, 1) := by decide +kernel
theorem J_MLineRows_isThirteen_d9 : decode J_MLineRows_isThirteen.2.1 9 = .ok (.iconst 0, 1) := by decide +kernel
theorem J_MLineRows_isThirteen_d10 : decode J_MLineRows_isThirteen.2.1 10 = .ok (.iconst 3, 1) := by decide +kernel
theorem J_MLineRows_isThirteen_d11 : decode J_MLineRows_isThirteen.2.1 11 = .ok (.iload_n 1, 1) := by decide +kernel
theorem J_MLineRows_isThirteen_d12 : decode J_MLineRows_isThirteen.2.1 12 = .ok (.bipush 95, 2) := by decide +kernel
theorem J_MLineRows_isThirteen_d14 : decode J_MLineRows_isThirteen.2.1 14 = .ok (.invokevirtual 243, 3) := by decide +kernel
theorem J_MLineRows_isThirteen_d17 : decode J_MLineRows_isThirteen.2.1 17 = .ok (.bipush 111, 2) := by decide +kernel
theorem J_MLineRows_isThirteen_d19 : decode J_MLineRows_isThirteen.2.1 19 = .ok (.if_icmp .ne 34, 3) := by decide +kernel
theorem J_MLineRows_isThirteen_d22 : decode J_MLineRows_isThirteen.2.1 22 = .ok (.aload_n 0, 1) := by decide +kernel
theorem J_MLineRows_isThirteen_d23 : decode J_MLineRows_isThirteen.2.1 23 = .ok (.bipush 27, 2) := by decide +kernel
theorem J_MLineRows_isThirteen_d25 : decode J_MLineRows_isThirteen.2.1 25 = .ok (.iconst 5, 1) := by decide +kernel
theorem J_MLineRows_isThirteen_d26 : decode J_MLineRows_isThirteen.2.1 26 = .ok (.iload_n 1, 1) := by decide +kernel
theorem J_MLineRows_isThirteen_d27 : decode J_MLineRows_isThirteen.2.1 27 = .ok (.bipush 95, 2) := by decide +kernel
theorem J_MLineRows_isThirteen_d29 : decode J_MLineRows_isThirteen.2.1 29 = .ok (.invokevirtual 243, 3) := by decide +kernel
theorem J_MLineRows_isThirteen_d32 : decode J_MLineRows_isThirteen.2.1 32 = .ok (.sipush 11111, 3) := by decide +kernel
theorem J_MLineRows_isThirteen_d35 : decode J_MLineRows_isThirteen.2.1 35 = .ok (.if_icmp .ne 18, 3) := by decide +kernel
theorem J_MLineRows_isThirteen_d38 : decode J_MLineRows_isThirteen.2.1 38 = .ok (.aload_n 0, 1) := by decide +kernel
theorem J_MLineRows_isThirteen_d39 : decode J_MLineRows_isThirteen.2.1 39 = .ok (.bipush 56, 2) := by decide +kernel
theorem J_MLineRows_isThirteen_d41 : decode J_MLineRows_isThirteen.2.1 41 = .ok (.iconst 3, 1) := by decide +kernel
theorem J_MLineRows_isThirteen_d42 : decode J_MLineRows_isThirteen.2.1 42 = .ok (.iload_n 1, 1) := by decide +kernel
theorem J_MLineRows_isThirteen_d43 : decode J_MLineRows_isThirteen.2.1 43 = .ok (.bipush 95, 2) := by decide +kernel
theorem J_MLineRows_isThirteen_d45 : decode J_MLineRows_isThirteen.2.1 45 = .ok (.invokevirtual 243, 3) := by decide +kernel
theorem J_MLineRows_isThirteen_d48 : decode J_MLineRows_isThirteen.2.1 48 = .ok (.bipush 111, 2) := by decide +kernel
theorem J_MLineRows_isThirteen_d50 : decode J_MLineRows_isThirteen.2.1 50 = .ok (.if_icmp .eq 5, 3) := by decide +kernel
theorem J_MLineRows_isThirteen_d53 : decode J_MLineRows_isThirteen.2.1 53 = .ok (.iconst 0, 1) := by decide +kernel
theorem J_MLineRows_isThirteen_d54 : decode J_MLineRows_isThirteen.2.1 54 = .ok (.ireturn, 1) := by decide +kernel
theorem J_MLineRows_isThirteen_d55 : decode J_MLineRows_isThirteen.2.1 55 = .ok (.iconst 0, 1) := by decide +kernel
theorem J_MLineRows_isThirteen_d56 : decode J_MLineRows_isThirteen.2.1 56 = .ok (.istore_n 2, 1) := by decide +kernel
theorem J_MLineRows_isThirteen_d57 : decode J_MLineRows_isThirteen.2.1 57 = .ok (.iconst 2, 1) := by decide +kernel
theorem J_MLineRows_isThirteen_d58 : decode J_MLineRows_isThirteen.2.1 58 = .ok (.istore_n 3, 1) := by decide +kernel
theorem J_MLineRows_isThirteen_d59 : decode J_MLineRows_isThirteen.2.1 59 = .ok (.iload_n 3, 1) := by decide +kernel
theorem J_MLineRows_isThirteen_d60 : decode J_MLineRows_isThirteen.2.1 60 = .ok (.bipush 13, 2) := by decide +kernel
theorem J_MLineRows_isThirteen_d62 : decode J_MLineRows_isThirteen.2.1 62 = .ok (.if_icmp .gt 154, 3) := by decide +kernel
theorem J_MLineRows_isThirteen_d65 : decode J_MLineRows_isThirteen.2.1 65 = .ok (.iload_n 3, 1) := by decide +kernel
theorem J_MLineRows_isThirteen_d66 : decode J_MLineRows_isThirteen.2.1 66 = .ok (.bipush 8, 2) := by decide +kernel
theorem J_MLineRows_isThirteen_d68 : decode J_MLineRows_isThirteen.2.1 68 = .ok (.if_icmp .ge 13, 3) := by decide +kernel
theorem J_MLineRows_isThirteen_d71 : decode J_MLineRows_isThirteen.2.1 71 = .ok (.iconst 3, 1) := by decide +kernel
theorem J_MLineRows_isThirteen_d72 : decode J_MLineRows_isThirteen.2.1 72 = .ok (.iconst 4, 1) := by decide +kernel
theorem J_MLineRows_isThirteen_d73 : decode J_MLineRows_isThirteen.2.1 73 = .ok (.iload_n 3, 1) := by decide +kernel
theorem J_MLineRows_isThirteen_d74 : decode J_MLineRows_isThirteen.2.1 74 = .ok (.iconst 2, 1) := by decide +kernel
theorem J_MLineRows_isThirteen_d75 : decode J_MLineRows_isThirteen.2.1 75 = .ok (.isub, 1) := by decide +kernel
theorem J_MLineRows_isThirteen_d76 : decode J_MLineRows_isThirteen.2.1 76 = .ok (.imul, 1) := by decide +kernel
theorem J_MLineRows_isThirteen_d77 : decode J_MLineRows_isThirteen.2.1 77 = .ok (.iadd, 1) := by decide +kernel
theorem J_MLineRows_isThirteen_d78 : decode J_MLineRows_isThirteen.2.1 78 = .ok (.goto 12, 3) := by decide +kernel
theorem J_MLineRows_isThirteen_d81 : decode J_MLineRows_isThirteen.2.1 81 = .ok (.bipush 32, 2) := by decide +kernel
theorem J_MLineRows_isThirteen_d83 : decode J_MLineRows_isThirteen.2.1 83 = .ok (.iconst 4, 1) := by decide +kernel
theorem J_MLineRows_isThirteen_d84 : decode J_MLineRows_isThirteen.2.1 84 = .ok (.iload_n 3, 1) := by decide +kernel
theorem J_MLineRows_isThirteen_d85 : decode J_MLineRows_isThirteen.2.1 85 = .ok (.bipush 8, 2) := by decide +kernel
theorem J_MLineRows_isThirteen_d87 : decode J_MLineRows_isThirteen.2.1 87 = .ok (.isub, 1) := by decide +kernel
theorem J_MLineRows_isThirteen_d88 : decode J_MLineRows_isThirteen.2.1 88 = .ok (.imul, 1) := by decide +kernel
theorem J_MLineRows_isThirteen_d89 : decode J_MLineRows_isThirteen.2.1 89 = .ok (.iadd, 1) := by decide +kernel
theorem J_MLineRows_isThirteen_d90 : decode J_MLineRows_isThirteen.2.1 90 = .ok (.istore 4, 2) := by decide +kernel
theorem J_MLineRows_isThirteen_d92 : decode J_MLineRows_isThirteen.2.1 92 = .ok (.aload_n 0, 1) := by decide +kernel
theorem J_MLineRows_isThirteen_d93 : decode J_MLineRows_isThirteen.2.1 93 = .ok (.iload 4, 2) := by decide +kernel
theorem J_MLineRows_isThirteen_d95 : decode J_MLineRows_isThirteen.2.1 95 = .ok (.iconst 4, 1) := by decide +kernel
theorem J_MLineRows_isThirteen_d96 : decode J_MLineRows_isThirteen.2.1 96 = .ok (.aload_n 0, 1) := by decide +kernel
theorem J_MLineRows_isThirteen_d97 : decode J_MLineRows_isThirteen.2.1 97 = .ok (.iload 4, 2) := by decide +kernel
theorem J_MLineRows_isThirteen_d99 : decode J_MLineRows_isThirteen.2.1 99 = .ok (.iconst 4, 1) := by decide +kernel
theorem J_MLineRows_isThirteen_d100 : decode J_MLineRows_isThirteen.2.1 100 = .ok (.invokevirtual 240, 3) := by decide +kernel
theorem J_MLineRows_isThirteen_d103 : decode J_MLineRows_isThirteen.2.1 103 = .ok (.bipush 7, 2) := by decide +kernel
theorem J_MLineRows_isThirteen_d105 : decode J_MLineRows_isThirteen.2.1 105 = .ok (.invokevirtual 243, 3) := by decide +kernel
theorem J_MLineRows_isThirteen_d108 : decode J_MLineRows_isThirteen.2.1 108 = .ok (.istore 5, 2) := by decide +kernel
theorem J_MLineRows_isThirteen_d110 : decode J_MLineRows_isThirteen.2.1 110 = .ok (.aload_n 0, 1) := by decide +kernel
theorem J_MLineRows_isThirteen_d111 : decode J_MLineRows_isThirteen.2.1 111 = .ok (.getfield 119, 3) := by decide +kernel
theorem J_MLineRows_isThirteen_d114 : decode J_MLineRows_isThirteen.2.1 114 = .ok (.iload 5, 2) := by decide +kernel
theorem J_MLineRows_isThirteen_d116 : decode J_MLineRows_isThirteen.2.1 116 = .ok (.invokestatic 247, 3) := by decide +kernel
theorem J_MLineRows_isThirteen_d119 : decode J_MLineRows_isThirteen.2.1 119 = .ok (.ifCond .ge 7, 3) := by decide +kernel
theorem J_MLineRows_isThirteen_d122 : decode J_MLineRows_isThirteen.2.1 122 = .ok (.iconst 1, 1) := by decide +kernel
theorem J_MLineRows_isThirteen_d123 : decode J_MLineRows_isThirteen.2.1 123 = .ok (.goto 4, 3) := by decide +kernel
theorem J_MLineRows_isThirteen_d126 : decode J_MLineRows_isThirteen.2.1 126 = .ok (.iconst 0, 1) := by decide +kernel
theorem J_MLineRows_isThirteen_d127 : decode J_MLineRows_isThirteen.2.1 127 = .ok (.istore 6, 2) := by decide +kernel
theorem J_MLineRows_isThirteen_d129 : decode J_MLineRows_isThirteen.2.1 129 = .ok (.iload 6, 2) := by decide +kernel
theorem J_MLineRows_isThirteen_d131 : decode J_MLineRows_isThirteen.2.1 131 = .ok (.ifCond .eq 26, 3) := by decide +kernel
theorem J_MLineRows_isThirteen_d134 : decode J_MLineRows_isThirteen.2.1 134 = .ok (.iload_n 3, 1) := by decide +kernel
theorem J_MLineRows_isThirteen_d135 : decode J_MLineRows_isThirteen.2.1 135 = .ok (.bipush 7, 2) := by decide +kernel
theorem J_MLineRows_isThirteen_d137 : decode J_MLineRows_isThirteen.2.1 137 = .ok (.if_icmp .gt 18, 3) := by decide +kernel
theorem J_MLineRows_isThirteen_d140 : decode J_MLineRows_isThirteen.2.1 140 = .ok (.aload_n 0, 1) := by decide +kernel
theorem J_MLineRows_isThirteen_d141 : decode J_MLineRows_isThirteen.2.1 141 = .ok (.getfield 119, 3) := by decide +kernel
theorem J_MLineRows_isThirteen_d144 : decode J_MLineRows_isThirteen.2.1 144 = .ok (.iload 5, 2) := by decide +kernel
theorem J_MLineRows_isThirteen_d146 : decode J_MLineRows_isThirteen.2.1 146 = .ok (.invokestatic 233, 3) := by decide +kernel
theorem J_MLineRows_isThirteen_d149 : decode J_MLineRows_isThirteen.2.1 149 = .ok (.invokestatic 247, 3) := by decide +kernel
theorem J_MLineRows_isThirteen_d152 : decode J_MLineRows_isThirteen.2.1 152 = .ok (.ifCond .ge 5, 3) := by decide +kernel
theorem J_MLineRows_isThirteen_d155 : decode J_MLineRows_isThirteen.2.1 155 = .ok (.iconst 0, 1) := by decide +kernel
theorem J_MLineRows_isThirteen_d156 : decode J_MLineRows_isThirteen.2.1 156 = .ok (.ireturn, 1) := by decide +kernel
theorem J_MLineRows_isThirteen_d157 : decode J_MLineRows_isThirteen.2.1 157 = .ok (.aload_n 0, 1) := by decide +kernel
theorem J_MLineRows_isThirteen_d158 : decode J_MLineRows_isThirteen.2.1 158 = .ok (.getfield 140, 3) := by decide +kernel
theorem J_MLineRows_isThirteen_d161 : decode J_MLineRows_isThirteen.2.1 161 = .ok (.iload_n 3, 1) := by decide +kernel
theorem J_MLineRows_isThirteen_d162 : decode J_MLineRows_isThirteen.2.1 162 = .ok (.aload_n 0, 1) := by decide +kernel
theorem J_MLineRows_isThirteen_d163 : decode J_MLineRows_isThirteen.2.1 163 = .ok (.getfield 119, 3) := by decide +kernel
theorem J_MLineRows_isThirteen_d166 : decode J_MLineRows_isThirteen.2.1 166 = .ok (.iload 6, 2) := by decide +kernel
theorem J_MLineRows_isThirteen_d168 : decode J_MLineRows_isThirteen.2.1 168 = .ok (.ifCond .eq 11, 3) := by decide +kernel
theorem J_MLineRows_isThirteen_d171 : decode J_MLineRows_isThirteen.2.1 171 = .ok (.iload 5, 2) := by decide +kernel
theorem J_MLineRows_isThirteen_d173 : decode J_MLineRows_isThirteen.2.1 173 = .ok (.invokestatic 233, 3) := by decide +kernel
theorem J_MLineRows_isThirteen_d176 : decode J_MLineRows_isThirteen.2.1 176 = .ok (.goto 5, 3) := by decide +kernel
theorem J_MLineRows_isThirteen_d179 : decode J_MLineRows_isThirteen.2.1 179 = .ok (.iload 5, 2) := by decide +kernel
theorem J_MLineRows_isThirteen_d181 : decode J_MLineRows_isThirteen.2.1 181 = .ok (.invokestatic 247, 3) := by decide +kernel
theorem J_MLineRows_isThirteen_d184 : decode J_MLineRows_isThirteen.2.1 184 = .ok (.iastore, 1) := by decide +kernel
theorem J_MLineRows_isThirteen_d185 : decode J_MLineRows_isThirteen.2.1 185 = .ok (.iload_n 3, 1) := by decide +kernel
theorem J_MLineRows_isThirteen_d186 : decode J_MLineRows_isThirteen.2.1 186 = .ok (.bipush 8, 2) := by decide +kernel
theorem J_MLineRows_isThirteen_d188 : decode J_MLineRows_isThirteen.2.1 188 = .ok (.if_icmp .ge 20, 3) := by decide +kernel
theorem J_MLineRows_isThirteen_d191 : decode J_MLineRows_isThirteen.2.1 191 = .ok (.iconst 2, 1) := by decide +kernel
theorem J_MLineRows_isThirteen_d192 : decode J_MLineRows_isThirteen.2.1 192 = .ok (.iload_n 2, 1) := by decide +kernel
theorem J_MLineRows_isThirteen_d193 : decode J_MLineRows_isThirteen.2.1 193 = .ok (.imul, 1) := by decide +kernel
theorem J_MLineRows_isThirteen_d194 : decode J_MLineRows_isThirteen.2.1 194 = .ok (.iload 6, 2) := by decide +kernel
theorem J_MLineRows_isThirteen_d196 : decode J_MLineRows_isThirteen.2.1 196 = .ok (.ifCond .eq 7, 3) := by decide +kernel
theorem J_MLineRows_isThirteen_d199 : decode J_MLineRows_isThirteen.2.1 199 = .ok (.iconst 1, 1) := by decide +kernel
theorem J_MLineRows_isThirteen_d200 : decode J_MLineRows_isThirteen.2.1 200 = .ok (.goto 4, 3) := by decide +kernel
theorem J_MLineRows_isThirteen_d203 : decode J_MLineRows_isThirteen.2.1 203 = .ok (.iconst 0, 1) := by decide +kernel
theorem J_MLineRows_isThirteen_d204 : decode J_MLineRows_isThirteen.2.1 204 = .ok (.iadd, 1) := by decide +kernel
theorem J_MLineRows_isThirteen_d205 : decode J_MLineRows_isThirteen.2.1 205 = .ok (.goto 4, 3) := by decide +kernel
theorem J_MLineRows_isThirteen_d208 : decode J_MLineRows_isThirteen.2.1 208 = .ok (.iload_n 2, 1) := by decide +kernel
theorem J_MLineRows_isThirteen_d209 : decode J_MLineRows_isThirteen.2.1 209 = .ok (.istore_n 2, 1) := by decide +kernel
theorem J_MLineRows_isThirteen_d210 : decode J_MLineRows_isThirteen.2.1 210 = .ok (.iinc 3 1, 3) := by decide +kernel
theorem J_MLineRows_isThirteen_d213 : decode J_MLineRows_isThirteen.2.1 213 = .ok (.goto (-154), 3) := by decide +kernel
theorem J_MLineRows_isThirteen_d216 : decode J_MLineRows_isThirteen.2.1 216 = .ok (.aload_n 0, 1) := by decide +kernel
theorem J_MLineRows_isThirteen_d217 : decode J_MLineRows_isThirteen.2.1 217 = .ok (.getfield 140, 3) := by decide +kernel
theorem J_MLineRows_isThirteen_d220 : decode J_MLineRows_isThirteen.2.1 220 = .ok (.iconst 1, 1) := by decide +kernel
theorem J_MLineRows_isThirteen_d221 : decode J_MLineRows_isThirteen.2.1 221 = .ok (.aload_n 0, 1) := by decide +kernel
theorem J_MLineRows_isThirteen_d222 : decode J_MLineRows_isThirteen.2.1 222 = .ok (.getfield 122, 3) := by decide +kernel
theorem J_MLineRows_isThirteen_d225 : decode J_MLineRows_isThirteen.2.1 225 = .ok (.iload_n 2, 1) := by decide +kernel
theorem J_MLineRows_isThirteen_d226 : decode J_MLineRows_isThirteen.2.1 226 = .ok (.invokestatic 247, 3) := by decide +kernel
theorem J_MLineRows_isThirteen_d229 : decode J_MLineRows_isThirteen.2.1 229 = .ok (.iastore, 1) := by decide +kernel
theorem J_MLineRows_isThirteen_d230 : decode J_MLineRows_isThirteen.2.1 230 = .ok (.aload_n 0, 1) := by decide +kernel
theorem J_MLineRows_isThirteen_d231 : decode J_MLineRows_isThirteen.2.1 231 = .ok (.getfield 140, 3) := by decide +kernel
theorem J_MLineRows_isThirteen_d234 : decode J_MLineRows_isThirteen.2.1 234 = .ok (.iconst 1, 1) := by decide +kernel
theorem J_MLineRows_isThirteen_d235 : decode J_MLineRows_isThirteen.2.1 235 = .ok (.iaload, 1) := by decide +kernel
theorem J_MLineRows_isThirteen_d236 : decode J_MLineRows_isThirteen.2.1 236 = .ok (.istore_n 3, 1) := by decide +kernel
theorem J_MLineRows_isThirteen_d237 : decode J_MLineRows_isThirteen.2.1 237 = .ok (.iconst 2, 1) := by decide +kernel
theorem J_MLineRows_isThirteen_d238 : decode J_MLineRows_isThirteen.2.1 238 = .ok (.istore 4, 2) := by decide +kernel
theorem J_MLineRows_isThirteen_d240 : decode J_MLineRows_isThirteen.2.1 240 = .ok (.iload 4, 2) := by decide +kernel
theorem J_MLineRows_isThirteen_d242 : decode J_MLineRows_isThirteen.2.1 242 = .ok (.bipush 13, 2) := by decide +kernel
theorem J_MLineRows_isThirteen_d244 : decode J_MLineRows_isThirteen.2.1 244 = .ok (.if_icmp .gt 33, 3) := by decide +kernel
theorem J_MLineRows_isThirteen_d247 : decode J_MLineRows_isThirteen.2.1 247 = .ok (.iload_n 3, 1) := by decide +kernel
theorem J_MLineRows_isThirteen_d248 : decode J_MLineRows_isThirteen.2.1 248 = .ok (.iload 4, 2) := by decide +kernel
theorem J_MLineRows_isThirteen_d250 : decode J_MLineRows_isThirteen.2.1 250 = .ok (.iconst 2, 1) := by decide +kernel
theorem J_MLineRows_isThirteen_d251 : decode J_MLineRows_isThirteen.2.1 251 = .ok (.irem, 1) := by decide +kernel
theorem J_MLineRows_isThirteen_d252 : decode J_MLineRows_isThirteen.2.1 252 = .ok (.iconst 1, 1) := by decide +kernel
theorem J_MLineRows_isThirteen_d253 : decode J_MLineRows_isThirteen.2.1 253 = .ok (.if_icmp .ne 7, 3) := by decide +kernel
theorem J_MLineRows_isThirteen_d256 : decode J_MLineRows_isThirteen.2.1 256 = .ok (.iconst 1, 1) := by decide +kernel
theorem J_MLineRows_isThirteen_d257 : decode J_MLineRows_isThirteen.2.1 257 = .ok (.goto 4, 3) := by decide +kernel
theorem J_MLineRows_isThirteen_d260 : decode J_MLineRows_isThirteen.2.1 260 = .ok (.iconst 3, 1) := by decide +kernel
theorem J_MLineRows_isThirteen_d261 : decode J_MLineRows_isThirteen.2.1 261 = .ok (.aload_n 0, 1) := by decide +kernel
theorem J_MLineRows_isThirteen_d262 : decode J_MLineRows_isThirteen.2.1 262 = .ok (.getfield 140, 3) := by decide +kernel
theorem J_MLineRows_isThirteen_d265 : decode J_MLineRows_isThirteen.2.1 265 = .ok (.iload 4, 2) := by decide +kernel
theorem J_MLineRows_isThirteen_d267 : decode J_MLineRows_isThirteen.2.1 267 = .ok (.iaload, 1) := by decide +kernel
theorem J_MLineRows_isThirteen_d268 : decode J_MLineRows_isThirteen.2.1 268 = .ok (.imul, 1) := by decide +kernel
theorem J_MLineRows_isThirteen_d269 : decode J_MLineRows_isThirteen.2.1 269 = .ok (.iadd, 1) := by decide +kernel
theorem J_MLineRows_isThirteen_d270 : decode J_MLineRows_isThirteen.2.1 270 = .ok (.istore_n 3, 1) := by decide +kernel
theorem J_MLineRows_isThirteen_d271 : decode J_MLineRows_isThirteen.2.1 271 = .ok (.iinc 4 1, 3) := by decide +kernel
theorem J_MLineRows_isThirteen_d274 : decode J_MLineRows_isThirteen.2.1 274 = .ok (.goto (-34), 3) := by decide +kernel
theorem J_MLineRows_isThirteen_d277 : decode J_MLineRows_isThirteen.2.1 277 = .ok (.aload_n 0, 1) := by decide +kernel
theorem J_MLineRows_isThirteen_d278 : decode J_MLineRows_isThirteen.2.1 278 = .ok (.getfield 140, 3) := by decide +kernel
theorem J_MLineRows_isThirteen_d281 : decode J_MLineRows_isThirteen.2.1 281 = .ok (.iconst 1, 1) := by decide +kernel
theorem J_MLineRows_isThirteen_d282 : decode J_MLineRows_isThirteen.2.1 282 = .ok (.iaload, 1) := by decide +kernel
theorem J_MLineRows_isThirteen_d283 : decode J_MLineRows_isThirteen.2.1 283 = .ok (.ifCond .lt 10, 3) := by decide +kernel
theorem J_MLineRows_isThirteen_d286 : decode J_MLineRows_isThirteen.2.1 286 = .ok (.iload_n 3, 1) := by decide +kernel
theorem J_MLineRows_isThirteen_d287 : decode J_MLineRows_isThirteen.2.1 287 = .ok (.bipush 10, 2) := by decide +kernel
theorem J_MLineRows_isThirteen_d289 : decode J_MLineRows_isThirteen.2.1 289 = .ok (.irem, 1) := by decide +kernel
theorem J_MLineRows_isThirteen_d290 : decode J_MLineRows_isThirteen.2.1 290 = .ok (.ifCond .eq 5, 3) := by decide +kernel
theorem J_MLineRows_isThirteen_d293 : decode J_MLineRows_isThirteen.2.1 293 = .ok (.iconst 0, 1) := by decide +kernel
theorem J_MLineRows_isThirteen_d294 : decode J_MLineRows_isThirteen.2.1 294 = .ok (.ireturn, 1) := by decide +kernel
theorem J_MLineRows_isThirteen_d295 : decode J_MLineRows_isThirteen.2.1 295 = .ok (.aload_n 0, 1) := by decide +kernel
theorem J_MLineRows_isThirteen_d296 : decode J_MLineRows_isThirteen.2.1 296 = .ok (.iconst 0, 1) := by decide +kernel
theorem J_MLineRows_isThirteen_d297 : decode J_MLineRows_isThirteen.2.1 297 = .ok (.putfield 250, 3) := by decide +kernel
theorem J_MLineRows_isThirteen_d300 : decode J_MLineRows_isThirteen.2.1 300 = .ok (.iconst 1, 1) := by decide +kernel
theorem J_MLineRows_isThirteen_d301 : decode J_MLineRows_isThirteen.2.1 301 = .ok (.istore 4, 2) := by decide +kernel
theorem J_MLineRows_isThirteen_d303 : decode J_MLineRows_isThirteen.2.1 303 = .ok (.iload 4, 2) := by decide +kernel
theorem J_MLineRows_isThirteen_d305 : decode J_MLineRows_isThirteen.2.1 305 = .ok (.bipush 13, 2) := by decide +kernel
theorem J_MLineRows_isThirteen_d307 : decode J_MLineRows_isThirteen.2.1 307 = .ok (.if_icmp .gt 23, 3) := by decide +kernel
theorem J_MLineRows_isThirteen_d310 : decode J_MLineRows_isThirteen.2.1 310 = .ok (.aload_n 0, 1) := by decide +kernel
theorem J_MLineRows_isThirteen_d311 : decode J_MLineRows_isThirteen.2.1 311 = .ok (.bipush 48, 2) := by decide +kernel
theorem J_MLineRows_isThirteen_d313 : decode J_MLineRows_isThirteen.2.1 313 = .ok (.aload_n 0, 1) := by decide +kernel
theorem J_MLineRows_isThirteen_d314 : decode J_MLineRows_isThirteen.2.1 314 = .ok (.getfield 140, 3) := by decide +kernel
theorem J_MLineRows_isThirteen_d317 : decode J_MLineRows_isThirteen.2.1 317 = .ok (.iload 4, 2) := by decide +kernel
theorem J_MLineRows_isThirteen_d319 : decode J_MLineRows_isThirteen.2.1 319 = .ok (.iaload, 1) := by decide +kernel
theorem J_MLineRows_isThirteen_d320 : decode J_MLineRows_isThirteen.2.1 320 = .ok (.iadd, 1) := by decide +kernel
theorem J_MLineRows_isThirteen_d321 : decode J_MLineRows_isThirteen.2.1 321 = .ok (.invokevirtual 253, 3) := by decide +kernel
theorem J_MLineRows_isThirteen_d324 : decode J_MLineRows_isThirteen.2.1 324 = .ok (.iinc 4 1, 3) := by decide +kernel
theorem J_MLineRows_isThirteen_d327 : decode J_MLineRows_isThirteen.2.1 327 = .ok (.goto (-24), 3) := by decide +kernel
theorem J_MLineRows_isThirteen_d330 : decode J_MLineRows_isThirteen.2.1 330 = .ok (.iconst 1, 1) := by decide +kernel
theorem J_MLineRows_isThirteen_d331 : decode J_MLineRows_isThirteen.2.1 331 = .ok (.ireturn, 1) := by decide +kernel
theorem f_MLineRows_isThirteen_ok {L : Nat} {xs : Nat → Int32} {dep : Nat} {w : Bool} {M : im_M} {Q : Int32 × im_M → Prop} (hM : lw_S w M) (h : ed (f_MLineRows_isThirteen M) Q) : ia (tb_G L xs) (dep + 1) J_MLineRows_isThirteen (rwI w Q) (0, lv_args 0 [.ref 96], [], M) := by
  have hS : im_St (tb_G L xs) (dep + 1) J_MLineRows_isThirteen (ia (tb_G L xs) (dep + 1) J_MLineRows_isThirteen (rwI w Q)) := ia_St
  unfold f_MLineRows_isThirteen at h
  have l0 : im_lk (lv_args 0 [.ref 96]) 0 = some (.ref 96) := rfl
  refine iq_aload_n hS 1 J_MLineRows_isThirteen_d0 l0 rfl ?_
  refine iq_iconst hS 2 J_MLineRows_isThirteen_d1 (v := 0) (by decide +kernel) rfl ?_
  refine iq_bipush hS 4 J_MLineRows_isThirteen_d2 (v := 59) (by decide +kernel) rfl ?_
  obtain ⟨Q1, hQ1, h⟩ := bd1_ed h
  refine iq_cpI hS 7 J_MLineRows_isThirteen_d4 rfl (pr_inst (vs := [_, _]) lc_13_240 lT_508 rfl rfl (by decide) (by decide) rfl (Nat.le_of_ble_eq_true rfl) (Nat.le_of_ble_eq_true rfl) (fun _ => Or.inl (pr_b (ka_96 hM) (by decide) rfl))) (f_MLineRows_sumOf_ok (dep := dep + 0) hM h) rfl ?_
  intro x1 h
  replace h := hQ1 _ h
  refine iq_istore_n hS 8 J_MLineRows_isThirteen_d7 (by decide) rfl ?_
  refine iq_aload_n hS 9 J_MLineRows_isThirteen_d8 (lk_1r l0 (by decide)) rfl ?_
  refine iq_iconst hS 10 J_MLineRows_isThirteen_d9 (v := 0) (by decide +kernel) rfl ?_
  refine iq_iconst hS 11 J_MLineRows_isThirteen_d10 (v := 3) (by decide +kernel) rfl ?_
  refine iq_iload_n hS 12 J_MLineRows_isThirteen_d11 lk_1s rfl ?_
  refine iq_bipush hS 14 J_MLineRows_isThirteen_d12 (v := 95) (by decide +kernel) rfl ?_
  obtain ⟨Q2, hQ2, h⟩ := bd1_ed h
  refine iq_cpI hS 17 J_MLineRows_isThirteen_d14 rfl (pr_inst (vs := [_, _, _, _]) lc_13_243 lT_509 rfl rfl (by decide) (by decide) rfl (Nat.le_of_ble_eq_true rfl) (Nat.le_of_ble_eq_true rfl) (fun _ => Or.inl (pr_b (ka_96 hM) (by decide) rfl))) (f_MLineRows_counts_ok (dep := dep + 0) hM h) rfl ?_
  intro x2 h
  replace h := hQ2 _ h
  refine iq_bipush hS 19 J_MLineRows_isThirteen_d17 (v := 111) (by decide +kernel) rfl ?_
  refine iq_icmp_ne hS 22 J_MLineRows_isThirteen_d19 (t := 53) rfl (fun q19 => ?_) rfl (fun q19 => ?_)
  · replace h := ed_pos q19 h
    refine iq_iconst hS 54 J_MLineRows_isThirteen_d53 (v := 0) (by decide +kernel) rfl ?_
    exact iq_iret J_MLineRows_isThirteen_d54 rfl rfl ⟨_, rfl, hM, ed_some h⟩
  · replace h := ed_neg q19 h
    refine iq_aload_n hS 23 J_MLineRows_isThirteen_d22 (lk_1r l0 (by decide)) rfl ?_
    refine iq_bipush hS 25 J_MLineRows_isThirteen_d23 (v := 27) (by decide +kernel) rfl ?_
    refine iq_iconst hS 26 J_MLineRows_isThirteen_d25 (v := 5) (by decide +kernel) rfl ?_
    refine iq_iload_n hS 27 J_MLineRows_isThirteen_d26 lk_1s rfl ?_
    refine iq_bipush hS 29 J_MLineRows_isThirteen_d27 (v := 95) (by decide +kernel) rfl ?_
    obtain ⟨Q3, hQ3, h⟩ := bd1_ed h
    refine iq_cpI hS 32 J_MLineRows_isThirteen_d29 rfl (pr_inst (vs := [_, _, _, _]) lc_13_243 lT_509 rfl rfl (by decide) (by decide) rfl (Nat.le_of_ble_eq_true rfl) (Nat.le_of_ble_eq_true rfl) (fun _ => Or.inl (pr_b (ka_96 hM) (by decide) rfl))) (f_MLineRows_counts_ok (dep := dep + 0) hM h) rfl ?_
    intro x3 h
    replace h := hQ3 _ h
    refine iq_sipush hS 35 J_MLineRows_isThirteen_d32 (v := 11111) (by decide +kernel) rfl ?_
    refine iq_icmp_ne hS 38 J_MLineRows_isThirteen_d35 (t := 53) rfl (fun q35 => ?_) rfl (fun q35 => ?_)
    · replace h := ed_pos q35 h
      refine iq_iconst hS 54 J_MLineRows_isThirteen_d53 (v := 0) (by decide +kernel) rfl ?_
      exact iq_iret J_MLineRows_isThirteen_d54 rfl rfl ⟨_, rfl, hM, ed_some h⟩
    · replace h := ed_neg q35 h
      refine iq_aload_n hS 39 J_MLineRows_isThirteen_d38 (lk_1r l0 (by decide)) rfl ?_
      refine iq_bipush hS 41 J_MLineRows_isThirteen_d39 (v := 56) (by decide +kernel) rfl ?_
      refine iq_iconst hS 42 J_MLineRows_isThirteen_d41 (v := 3) (by decide +kernel) rfl ?_
      refine iq_iload_n hS 43 J_MLineRows_isThirteen_d42 lk_1s rfl ?_
      refine iq_bipush hS 45 J_MLineRows_isThirteen_d43 (v := 95) (by decide +kernel) rfl ?_
      obtain ⟨Q4, hQ4, h⟩ := bd1_ed h
      refine iq_cpI hS 48 J_MLineRows_isThirteen_d45 rfl (pr_inst (vs := [_, _, _, _]) lc_13_243 lT_509 rfl rfl (by decide) (by decide) rfl (Nat.le_of_ble_eq_true rfl) (Nat.le_of_ble_eq_true rfl) (fun _ => Or.inl (pr_b (ka_96 hM) (by decide) rfl))) (f_MLineRows_counts_ok (dep := dep + 0) hM h) rfl ?_
      intro x4 h
      replace h := hQ4 _ h
      refine iq_bipush hS 50 J_MLineRows_isThirteen_d48 (v := 111) (by decide +kernel) rfl ?_
      refine iq_icmp_eq hS 53 J_MLineRows_isThirteen_d50 (t := 55) rfl (fun q50 => ?_) rfl (fun q50 => ?_)
      · replace h := ed_pos q50 h
        refine iq_iconst hS 56 J_MLineRows_isThirteen_d55 (v := 0) (by decide +kernel) rfl ?_
        refine iq_istore_n hS 57 J_MLineRows_isThirteen_d56 (by decide) rfl ?_
        refine iq_iconst hS 58 J_MLineRows_isThirteen_d57 (v := 2) (by decide +kernel) rfl ?_
        refine iq_istore_n hS 59 J_MLineRows_isThirteen_d58 (by decide) rfl ?_
        obtain ⟨Q5, hQ5, hR5, h⟩ := bs2_ed h
        have K5 : ∀ (y6 : Int32) (M7 : im_M) (L' : List (Nat × Value)), lw_S w M7 → im_lk L' 0 = some (.ref 96) → im_lk L' 2 = some (.int y6) → Q5 (.inl (y6, M7)) → ia (tb_G L xs) (dep + 1) J_MLineRows_isThirteen (rwI w Q) (216, L', [], M7) := by
          intro y6 M7 L' hM7 l8 l9 h
          replace h := hQ5 _ _ h
          refine iq_aload_n hS 217 J_MLineRows_isThirteen_d216 l8 rfl ?_
          refine iq_getR hS 220 J_MLineRows_isThirteen_d217 lf_13_140 (Or.inr ⟨_, rfl⟩) (ka_96 hM7) (ra_96_12 hM7) rfl ?_
          refine iq_iconst hS 221 J_MLineRows_isThirteen_d220 (v := 1) (by decide +kernel) rfl ?_
          refine iq_aload_n hS 222 J_MLineRows_isThirteen_d221 l8 rfl ?_
          refine iq_getR hS 225 J_MLineRows_isThirteen_d222 lf_13_122 (Or.inr ⟨_, rfl⟩) (ka_96 hM7) (ra_96_2 hM7) rfl ?_
          refine iq_iload_n hS 226 J_MLineRows_isThirteen_d225 l9 rfl ?_
          obtain ⟨Q10, hQ10, h⟩ := bd1_ed h
          refine iq_cpI hS 229 J_MLineRows_isThirteen_d226 rfl (pr_stat (vs := [_, _]) lc_13_247 lT_510 rfl rfl (by decide) rfl (Nat.le_of_ble_eq_true rfl) (Nat.le_of_ble_eq_true rfl)) (f_MLineRows_place_2_ok (dep := dep + 0) hM7 h) rfl ?_
          intro x10 h
          replace h := hQ10 _ h
          obtain ⟨g229, h⟩ := ed_gd h
          refine iq_iastore hS 230 J_MLineRows_isThirteen_d229 ⟨(ka_105 hM7).1, (ka_105 hM7).2, g229.1, ix_lt (kl_105 hM7) g229.2⟩ rfl ?_
          refine iq_aload_n hS 231 J_MLineRows_isThirteen_d230 l8 rfl ?_
          refine iq_getR hS 234 J_MLineRows_isThirteen_d231 lf_13_140 (Or.inr ⟨_, rfl⟩) (ka_96 hM7) (ra_96_12 hM7) rfl ?_
          refine iq_iconst hS 235 J_MLineRows_isThirteen_d234 (v := 1) (by decide +kernel) rfl ?_
          obtain ⟨g235, h⟩ := ed_gd h
          refine iq_iaload hS 236 J_MLineRows_isThirteen_d235 ⟨(ka_105 hM7).1, (ka_105 hM7).2, g235.1, ix_lt (kl_105 hM7) g235.2⟩ rfl ?_
          refine iq_istore_n hS 237 J_MLineRows_isThirteen_d236 (by decide) rfl ?_
          refine iq_iconst hS 238 J_MLineRows_isThirteen_d237 (v := 2) (by decide +kernel) rfl ?_
          refine iq_istore hS 240 J_MLineRows_isThirteen_d238 (by decide) rfl ?_
          obtain ⟨Q11, hQ11, h⟩ := bd1_ed h
          have K11 : ∀ (y12 : Int32) (L' : List (Nat × Value)), im_lk L' 0 = some (.ref 96) → im_lk L' 3 = some (.int y12) → Q11 y12 → ia (tb_G L xs) (dep + 1) J_MLineRows_isThirteen (rwI w Q) (277, L', [], (im_setI M7 105 (Int32.toNatClampNeg 1) x10)) := by
            intro y12 L' l13 l14 h
            replace h := hQ11 _ h
            refine iq_aload_n hS 278 J_MLineRows_isThirteen_d277 l13 rfl ?_
            refine iq_getR hS 281 J_MLineRows_isThirteen_d278 lf_13_140 (Or.inr ⟨_, rfl⟩) (ka_96 hM7) (ra_96_12 hM7) rfl ?_
            refine iq_iconst hS 282 J_MLineRows_isThirteen_d281 (v := 1) (by decide +kernel) rfl ?_
            obtain ⟨g282, h⟩ := ed_gd h
            refine iq_iaload hS 283 J_MLineRows_isThirteen_d282 ⟨(ka_105 hM7).1, (ka_105 hM7).2, g282.1, ix_lt (kl_105 hM7) g282.2⟩ rfl ?_
            refine iq_if_lt hS 286 J_MLineRows_isThirteen_d283 (t := 293) rfl (fun q283 => ?_) rfl (fun q283 => ?_)
            · replace h := ed_pos q283 h
              refine iq_iconst hS 294 J_MLineRows_isThirteen_d293 (v := 0) (by decide +kernel) rfl ?_
              exact iq_iret J_MLineRows_isThirteen_d294 rfl rfl ⟨_, rfl, hM7, ed_some h⟩
            · replace h := ed_neg q283 h
              refine iq_iload_n hS 287 J_MLineRows_isThirteen_d286 l14 rfl ?_
              refine iq_bipush hS 289 J_MLineRows_isThirteen_d287 (v := 10) (by decide +kernel) rfl ?_
              refine iq_irem hS 290 J_MLineRows_isThirteen_d289 (by decide) rfl ?_
              refine iq_if_eq hS 293 J_MLineRows_isThirteen_d290 (t := 295) rfl (fun q290 => ?_) rfl (fun q290 => ?_)
              · replace h := ed_pos q290 h
                refine iq_aload_n hS 296 J_MLineRows_isThirteen_d295 l13 rfl ?_
                refine iq_iconst hS 297 J_MLineRows_isThirteen_d296 (v := 0) (by decide +kernel) rfl ?_
                refine iq_putI hS 300 J_MLineRows_isThirteen_d297 lf_13_250 (Or.inl rfl) rfl (ka_96 hM7) rfl ?_
                refine iq_iconst hS 301 J_MLineRows_isThirteen_d300 (v := 1) (by decide +kernel) rfl ?_
                refine iq_istore hS 303 J_MLineRows_isThirteen_d301 (by decide) rfl ?_
                obtain ⟨Q15, hQ15, h⟩ := bd1_ed h
                have K15 : ∀ (M16 : im_M) (L' : List (Nat × Value)), lw_S w M16 → Q15 M16 → ia (tb_G L xs) (dep + 1) J_MLineRows_isThirteen (rwI w Q) (330, L', [], M16) := by
                  intro M16 L' hM16  h
                  replace h := hQ15 _ h
                  refine iq_iconst hS 331 J_MLineRows_isThirteen_d330 (v := 1) (by decide +kernel) rfl ?_
                  exact iq_iret J_MLineRows_isThirteen_d331 rfl rfl ⟨_, rfl, hM16, ed_some h⟩
                obtain ⟨r15, hr15, hq15⟩ := h
                obtain ⟨n15, hn15⟩ := lp_n hr15
                have I15 : ∀ (n : Nat) (x17 : Int32) (M18 : im_M) (L' : List (Nat × Value)), lw_S w M18 → im_lk L' 0 = some (.ref 96) → im_lk L' 4 = some (.int x17) → lpn (uc2 (f_MLineRows_isThirteen_L303)) n (x17, M18) = some r15 → ia (tb_G L xs) (dep + 1) J_MLineRows_isThirteen (rwI w Q) (303, L', [], M18) := by
                  intro n
                  induction n with
                  | zero => intro x17 M18 L' hM18 l19 l20 hn; exact (lpn_0 hn).elim
                  | succ n ih =>
                    intro x17 M18 L' hM18 l19 l20 hn
                    have h := lpn_ed2 hn
                    unfold f_MLineRows_isThirteen_L303 at h
                    refine iq_iload hS 305 J_MLineRows_isThirteen_d303 l20 rfl ?_
                    refine iq_bipush hS 307 J_MLineRows_isThirteen_d305 (v := 13) (by decide +kernel) rfl ?_
                    refine iq_icmp_gt hS 310 J_MLineRows_isThirteen_d307 (t := 330) rfl (fun q307 => ?_) rfl (fun q307 => ?_)
                    · replace h := ed_pos q307 h
                      exact K15 _ _ hM18  (lq_r h hq15)
                    · replace h := ed_neg q307 h
                      refine iq_aload_n hS 311 J_MLineRows_isThirteen_d310 l19 rfl ?_
                      refine iq_bipush hS 313 J_MLineRows_isThirteen_d311 (v := 48) (by decide +kernel) rfl ?_
                      refine iq_aload_n hS 314 J_MLineRows_isThirteen_d313 l19 rfl ?_
                      refine iq_getR hS 317 J_MLineRows_isThirteen_d314 lf_13_140 (Or.inr ⟨_, rfl⟩) (ka_96 hM18) (ra_96_12 hM18) rfl ?_
                      refine iq_iload hS 319 J_MLineRows_isThirteen_d317 l20 rfl ?_
                      obtain ⟨g319, h⟩ := ed_gd h
                      refine iq_iaload hS 320 J_MLineRows_isThirteen_d319 ⟨(ka_105 hM18).1, (ka_105 hM18).2, g319.1, ix_lt (kl_105 hM18) g319.2⟩ rfl ?_
                      refine iq_iadd hS 321 J_MLineRows_isThirteen_d320 rfl ?_
                      obtain ⟨Q21, hQ21, h⟩ := bd1_ed h
                      refine iq_cwV hS 324 J_MLineRows_isThirteen_d321 rfl (pr_inst (vs := [_]) lc_13_253 lT_511 rfl rfl (by decide) (by decide) rfl (Nat.le_of_ble_eq_true rfl) (Nat.le_of_ble_eq_true rfl) (fun _ => Or.inl (pr_b (ka_96 hM18) (by decide) rfl))) (f_MLineRows_tell_ok (dep := dep + 0) hM18 h) rfl ?_
                      intro M21 hM21 h
                      replace h := hQ21 _ h
                      refine iq_iincv hS 327 J_MLineRows_isThirteen_d324 (c := 1) (by decide +kernel) l20 (by decide) rfl ?_
                      refine iq_goto hS J_MLineRows_isThirteen_d327 (t := 303) rfl ?_
                      exact ih _ _ _ hM21 (lk_1r l19 (by decide)) lk_1s (lq_l h)
                exact I15 n15 _ _ _ hM7 (lk_1r l13 (by decide)) lk_1s hn15
              · replace h := ed_neg q290 h
                refine iq_iconst hS 294 J_MLineRows_isThirteen_d293 (v := 0) (by decide +kernel) rfl ?_
                exact iq_iret J_MLineRows_isThirteen_d294 rfl rfl ⟨_, rfl, hM7, ed_some h⟩
          obtain ⟨r11, hr11, hq11⟩ := h
          obtain ⟨n11, hn11⟩ := lp_n hr11
          have I11 : ∀ (n : Nat) (x22 : Int32) (x23 : Int32) (L' : List (Nat × Value)), im_lk L' 0 = some (.ref 96) → im_lk L' 3 = some (.int x22) → im_lk L' 4 = some (.int x23) → lpn (uc2 (f_MLineRows_isThirteen_L240 (im_setI M7 105 (Int32.toNatClampNeg 1) x10))) n (x22, x23) = some r11 → ia (tb_G L xs) (dep + 1) J_MLineRows_isThirteen (rwI w Q) (240, L', [], (im_setI M7 105 (Int32.toNatClampNeg 1) x10)) := by
            intro n
            induction n with
            | zero => intro x22 x23 L' l24 l25 l26 hn; exact (lpn_0 hn).elim
            | succ n ih =>
              intro x22 x23 L' l24 l25 l26 hn
              have h := lpn_ed2 hn
              unfold f_MLineRows_isThirteen_L240 at h
              refine iq_iload hS 242 J_MLineRows_isThirteen_d240 l26 rfl ?_
              refine iq_bipush hS 244 J_MLineRows_isThirteen_d242 (v := 13) (by decide +kernel) rfl ?_
              refine iq_icmp_gt hS 247 J_MLineRows_isThirteen_d244 (t := 277) rfl (fun q244 => ?_) rfl (fun q244 => ?_)
              · replace h := ed_pos q244 h
                exact K11 _ _ l24 l25 (lq_r h hq11)
              · replace h := ed_neg q244 h
                refine iq_iload_n hS 248 J_MLineRows_isThirteen_d247 l25 rfl ?_
                refine iq_iload hS 250 J_MLineRows_isThirteen_d248 l26 rfl ?_
                refine iq_iconst hS 251 J_MLineRows_isThirteen_d250 (v := 2) (by decide +kernel) rfl ?_
                refine iq_irem hS 252 J_MLineRows_isThirteen_d251 (by decide) rfl ?_
                refine iq_iconst hS 253 J_MLineRows_isThirteen_d252 (v := 1) (by decide +kernel) rfl ?_
                have J27 : ∀ (z28 : Int32) (L' : List (Nat × Value)), z28 = ((if ¬ (x23 - x23 / 2 * 2) = 1 then 3 else 1) : Int32) → im_lk L' 0 = some (.ref 96) → im_lk L' 4 = some (.int x23) → ia (tb_G L xs) (dep + 1) J_MLineRows_isThirteen (rwI w Q) (261, L', [.int z28, .int x22], (im_setI M7 105 (Int32.toNatClampNeg 1) x10)) := by
                  intro z28 L' e29 l30 l31
                  subst e29
                  refine iq_aload_n hS 262 J_MLineRows_isThirteen_d261 l30 rfl ?_
                  refine iq_getR hS 265 J_MLineRows_isThirteen_d262 lf_13_140 (Or.inr ⟨_, rfl⟩) (ka_96 hM7) (ra_96_12 hM7) rfl ?_
                  refine iq_iload hS 267 J_MLineRows_isThirteen_d265 l31 rfl ?_
                  obtain ⟨g267, h⟩ := ed_gd h
                  refine iq_iaload hS 268 J_MLineRows_isThirteen_d267 ⟨(ka_105 hM7).1, (ka_105 hM7).2, g267.1, ix_lt (kl_105 hM7) g267.2⟩ rfl ?_
                  refine iq_imul hS 269 J_MLineRows_isThirteen_d268 rfl ?_
                  refine iq_iadd hS 270 J_MLineRows_isThirteen_d269 rfl ?_
                  refine iq_istore_n hS 271 J_MLineRows_isThirteen_d270 (by decide) rfl ?_
                  refine iq_iincv hS 274 J_MLineRows_isThirteen_d271 (c := 1) (by decide +kernel) (lk_1i l31 (by decide)) (by decide) rfl ?_
                  refine iq_goto hS J_MLineRows_isThirteen_d274 (t := 240) rfl ?_
                  exact ih _ _ _ (lk_1r (lk_1r l30 (by decide)) (by decide)) (lk_1i lk_1s (by decide)) lk_1s (lq_l h)
                refine iq_icmp_ne hS 256 J_MLineRows_isThirteen_d253 (t := 260) rfl (fun q253 => ?_) rfl (fun q253 => ?_)
                · refine iq_iconst hS 261 J_MLineRows_isThirteen_d260 (v := 3) (by decide +kernel) rfl ?_
                  exact J27 _ _ (by rw [if_pos q253]) l24 l26
                · refine iq_iconst hS 257 J_MLineRows_isThirteen_d256 (v := 1) (by decide +kernel) rfl ?_
                  refine iq_goto hS J_MLineRows_isThirteen_d257 (t := 261) rfl ?_
                  exact J27 _ _ (by rw [if_neg q253]) l24 l26
          exact I11 n11 _ _ _ (lk_1r (lk_1r l8 (by decide)) (by decide)) (lk_1i lk_1s (by decide)) lk_1s hn11
        obtain ⟨r5, hr5, hq5⟩ := h
        obtain ⟨n5, hn5⟩ := lp_n hr5
        have I5 : ∀ (n : Nat) (x32 : Int32) (x33 : Int32) (M34 : im_M) (L' : List (Nat × Value)), lw_S w M34 → im_lk L' 0 = some (.ref 96) → im_lk L' 2 = some (.int x32) → im_lk L' 3 = some (.int x33) → lpn (uc3 (f_MLineRows_isThirteen_L59)) n (x32, x33, M34) = some r5 → ia (tb_G L xs) (dep + 1) J_MLineRows_isThirteen (rwI w Q) (59, L', [], M34) := by
          intro n
          induction n with
          | zero => intro x32 x33 M34 L' hM34 l35 l36 l37 hn; exact (lpn_0 hn).elim
          | succ n ih =>
            intro x32 x33 M34 L' hM34 l35 l36 l37 hn
            have h := lpn_ed3 hn
            unfold f_MLineRows_isThirteen_L59 at h
            refine iq_iload_n hS 60 J_MLineRows_isThirteen_d59 l37 rfl ?_
            refine iq_bipush hS 62 J_MLineRows_isThirteen_d60 (v := 13) (by decide +kernel) rfl ?_
            refine iq_icmp_gt hS 65 J_MLineRows_isThirteen_d62 (t := 216) rfl (fun q62 => ?_) rfl (fun q62 => ?_)
            · replace h := ed_pos q62 h
              exact K5 _ _ _ hM34 l35 l36 (lq_r h hq5)
            · replace h := ed_neg q62 h
              refine iq_iload_n hS 66 J_MLineRows_isThirteen_d65 l37 rfl ?_
              refine iq_bipush hS 68 J_MLineRows_isThirteen_d66 (v := 8) (by decide +kernel) rfl ?_
              have J38 : ∀ (z39 : Int32) (L' : List (Nat × Value)), z39 = ((if 8 ≤ x33 then ((32 : Int32) + ((4 : Int32) * (x33 - 8))) else ((3 : Int32) + ((4 : Int32) * (x33 - 2)))) : Int32) → im_lk L' 0 = some (.ref 96) → im_lk L' 2 = some (.int x32) → im_lk L' 3 = some (.int x33) → ia (tb_G L xs) (dep + 1) J_MLineRows_isThirteen (rwI w Q) (90, L', [.int z39], M34) := by
                intro z39 L' e40 l41 l42 l43
                subst e40
                refine iq_istore hS 92 J_MLineRows_isThirteen_d90 (by decide) rfl ?_
                refine iq_aload_n hS 93 J_MLineRows_isThirteen_d92 (lk_1r l41 (by decide)) rfl ?_
                refine iq_iload hS 95 J_MLineRows_isThirteen_d93 lk_1s rfl ?_
                refine iq_iconst hS 96 J_MLineRows_isThirteen_d95 (v := 4) (by decide +kernel) rfl ?_
                refine iq_aload_n hS 97 J_MLineRows_isThirteen_d96 (lk_1r l41 (by decide)) rfl ?_
                refine iq_iload hS 99 J_MLineRows_isThirteen_d97 lk_1s rfl ?_
                refine iq_iconst hS 100 J_MLineRows_isThirteen_d99 (v := 4) (by decide +kernel) rfl ?_
                obtain ⟨Q44, hQ44, h⟩ := bd1_ed h
                refine iq_cpI hS 103 J_MLineRows_isThirteen_d100 rfl (pr_inst (vs := [_, _]) lc_13_240 lT_508 rfl rfl (by decide) (by decide) rfl (Nat.le_of_ble_eq_true rfl) (Nat.le_of_ble_eq_true rfl) (fun _ => Or.inl (pr_b (ka_96 hM34) (by decide) rfl))) (f_MLineRows_sumOf_ok (dep := dep + 0) hM34 h) rfl ?_
                intro x44 h
                replace h := hQ44 _ h
                refine iq_bipush hS 105 J_MLineRows_isThirteen_d103 (v := 7) (by decide +kernel) rfl ?_
                obtain ⟨Q45, hQ45, h⟩ := bd1_ed h
                refine iq_cpI hS 108 J_MLineRows_isThirteen_d105 rfl (pr_inst (vs := [_, _, _, _]) lc_13_243 lT_509 rfl rfl (by decide) (by decide) rfl (Nat.le_of_ble_eq_true rfl) (Nat.le_of_ble_eq_true rfl) (fun _ => Or.inl (pr_b (ka_96 hM34) (by decide) rfl))) (f_MLineRows_counts_ok (dep := dep + 0) hM34 h) rfl ?_
                intro x45 h
                replace h := hQ45 _ h
                refine iq_istore hS 110 J_MLineRows_isThirteen_d108 (by decide) rfl ?_
                refine iq_aload_n hS 111 J_MLineRows_isThirteen_d110 (lk_1r (lk_1r l41 (by decide)) (by decide)) rfl ?_
                refine iq_getR hS 114 J_MLineRows_isThirteen_d111 lf_13_119 (Or.inr ⟨_, rfl⟩) (ka_96 hM34) (ra_96_1 hM34) rfl ?_
                refine iq_iload hS 116 J_MLineRows_isThirteen_d114 lk_1s rfl ?_
                obtain ⟨Q46, hQ46, h⟩ := bd1_ed h
                refine iq_cpI hS 119 J_MLineRows_isThirteen_d116 rfl (pr_stat (vs := [_, _]) lc_13_247 lT_510 rfl rfl (by decide) rfl (Nat.le_of_ble_eq_true rfl) (Nat.le_of_ble_eq_true rfl)) (f_MLineRows_place_1_ok (dep := dep + 0) hM34 h) rfl ?_
                intro x46 h
                replace h := hQ46 _ h
                have J47 : ∀ (z48 : Int32) (L' : List (Nat × Value)), z48 = ((if 0 ≤ x46 then 0 else 1) : Int32) → im_lk L' 0 = some (.ref 96) → im_lk L' 2 = some (.int x32) → im_lk L' 3 = some (.int x33) → im_lk L' 5 = some (.int x45) → ia (tb_G L xs) (dep + 1) J_MLineRows_isThirteen (rwI w Q) (127, L', [.int z48], M34) := by
                  intro z48 L' e49 l50 l51 l52 l53
                  subst e49
                  refine iq_istore hS 129 J_MLineRows_isThirteen_d127 (by decide) rfl ?_
                  refine iq_iload hS 131 J_MLineRows_isThirteen_d129 lk_1s rfl ?_
                  obtain ⟨k54, Q54, hQ54, hk54, h⟩ := jn0_ed h
                  have J54 : ∀  (L' : List (Nat × Value)), im_lk L' 0 = some (.ref 96) → im_lk L' 2 = some (.int x32) → im_lk L' 3 = some (.int x33) → im_lk L' 5 = some (.int x45) → im_lk L' 6 = some (.int ((if 0 ≤ x46 then 0 else 1) : Int32)) → Q54 () → ia (tb_G L xs) (dep + 1) J_MLineRows_isThirteen (rwI w Q) (157, L', [], M34) := by
                    intro  L' l57 l58 l59 l60 l61 h
                    replace h := hQ54  h
                    refine iq_aload_n hS 158 J_MLineRows_isThirteen_d157 l57 rfl ?_
                    refine iq_getR hS 161 J_MLineRows_isThirteen_d158 lf_13_140 (Or.inr ⟨_, rfl⟩) (ka_96 hM34) (ra_96_12 hM34) rfl ?_
                    refine iq_iload_n hS 162 J_MLineRows_isThirteen_d161 l59 rfl ?_
                    refine iq_aload_n hS 163 J_MLineRows_isThirteen_d162 l57 rfl ?_
                    refine iq_getR hS 166 J_MLineRows_isThirteen_d163 lf_13_119 (Or.inr ⟨_, rfl⟩) (ka_96 hM34) (ra_96_1 hM34) rfl ?_
                    refine iq_iload hS 168 J_MLineRows_isThirteen_d166 l61 rfl ?_
                    obtain ⟨Q62, hQ62, h⟩ := bd1_ed h
                    have J62 : ∀ (y64 : Int32) (L' : List (Nat × Value)), im_lk L' 0 = some (.ref 96) → im_lk L' 2 = some (.int x32) → im_lk L' 3 = some (.int x33) → im_lk L' 6 = some (.int ((if 0 ≤ x46 then 0 else 1) : Int32)) → Q62 y64 → ia (tb_G L xs) (dep + 1) J_MLineRows_isThirteen (rwI w Q) (181, L', [.int y64, .ref 98, .int x33, .ref 105], M34) := by
                      intro y64 L' l65 l66 l67 l68 h
                      replace h := hQ62 _ h
                      obtain ⟨Q69, hQ69, h⟩ := bd1_ed h
                      refine iq_cpI hS 184 J_MLineRows_isThirteen_d181 rfl (pr_stat (vs := [_, _]) lc_13_247 lT_510 rfl rfl (by decide) rfl (Nat.le_of_ble_eq_true rfl) (Nat.le_of_ble_eq_true rfl)) (f_MLineRows_place_1_ok (dep := dep + 0) hM34 h) rfl ?_
                      intro x69 h
                      replace h := hQ69 _ h
                      obtain ⟨g184, h⟩ := ed_gd h
                      refine iq_iastore hS 185 J_MLineRows_isThirteen_d184 ⟨(ka_105 hM34).1, (ka_105 hM34).2, g184.1, ix_lt (kl_105 hM34) g184.2⟩ rfl ?_
                      refine iq_iload_n hS 186 J_MLineRows_isThirteen_d185 l67 rfl ?_
                      refine iq_bipush hS 188 J_MLineRows_isThirteen_d186 (v := 8) (by decide +kernel) rfl ?_
                      have J70 : ∀ (z71 : Int32) (L' : List (Nat × Value)), z71 = ((if 8 ≤ x33 then x32 else (if ((if 0 ≤ x46 then 0 else 1) : Int32) = 0 then (((2 : Int32) * x32) + 0) else (((2 : Int32) * x32) + 1))) : Int32) → im_lk L' 0 = some (.ref 96) → im_lk L' 3 = some (.int x33) → ia (tb_G L xs) (dep + 1) J_MLineRows_isThirteen (rwI w Q) (209, L', [.int z71], (im_setI M34 105 (Int32.toNatClampNeg x33) x69)) := by
                        intro z71 L' e72 l73 l74
                        subst e72
                        refine iq_istore_n hS 210 J_MLineRows_isThirteen_d209 (by decide) rfl ?_
                        refine iq_iincv hS 213 J_MLineRows_isThirteen_d210 (c := 1) (by decide +kernel) (lk_1i l74 (by decide)) (by decide) rfl ?_
                        refine iq_goto hS J_MLineRows_isThirteen_d213 (t := 59) rfl ?_
                        exact ih _ _ _ _ hM34 (lk_1r (lk_1r l73 (by decide)) (by decide)) (lk_1i lk_1s (by decide)) lk_1s (lq_l h)
                      refine iq_icmp_ge hS 191 J_MLineRows_isThirteen_d188 (t := 208) rfl (fun q188 => ?_) rfl (fun q188 => ?_)
                      · refine iq_iload_n hS 209 J_MLineRows_isThirteen_d208 l66 rfl ?_
                        exact J70 _ _ (by rw [if_pos q188]) l65 l67
                      · refine iq_iconst hS 192 J_MLineRows_isThirteen_d191 (v := 2) (by decide +kernel) rfl ?_
                        refine iq_iload_n hS 193 J_MLineRows_isThirteen_d192 l66 rfl ?_
                        refine iq_imul hS 194 J_MLineRows_isThirteen_d193 rfl ?_
                        refine iq_iload hS 196 J_MLineRows_isThirteen_d194 l68 rfl ?_
                        refine iq_if_eq hS 199 J_MLineRows_isThirteen_d196 (t := 203) rfl (fun q196 => ?_) rfl (fun q196 => ?_)
                        · refine iq_iconst hS 204 J_MLineRows_isThirteen_d203 (v := 0) (by decide +kernel) rfl ?_
                          refine iq_iadd hS 205 J_MLineRows_isThirteen_d204 rfl ?_
                          refine iq_goto hS J_MLineRows_isThirteen_d205 (t := 209) rfl ?_
                          exact J70 _ _ (by rw [if_neg q188, if_pos q196]) l65 l67
                        · refine iq_iconst hS 200 J_MLineRows_isThirteen_d199 (v := 1) (by decide +kernel) rfl ?_
                          refine iq_goto hS J_MLineRows_isThirteen_d200 (t := 204) rfl ?_
                          refine iq_iadd hS 205 J_MLineRows_isThirteen_d204 rfl ?_
                          refine iq_goto hS J_MLineRows_isThirteen_d205 (t := 209) rfl ?_
                          exact J70 _ _ (by rw [if_neg q188, if_neg q196]) l65 l67
                    refine iq_if_eq hS 171 J_MLineRows_isThirteen_d168 (t := 179) rfl (fun q168 => ?_) rfl (fun q168 => ?_)
                    · replace h := ed_pos q168 h
                      refine iq_iload hS 181 J_MLineRows_isThirteen_d179 l60 rfl ?_
                      exact J62 _ _ l57 l58 l59 l61 (ed_some h)
                    · replace h := ed_neg q168 h
                      refine iq_iload hS 173 J_MLineRows_isThirteen_d171 l60 rfl ?_
                      obtain ⟨Q63, hQ63, h⟩ := bd1_ed h
                      refine iq_cpI hS 176 J_MLineRows_isThirteen_d173 rfl (pr_stat (vs := [_]) lc_13_233 lT_378 rfl rfl (by decide) rfl (Nat.le_of_ble_eq_true rfl) (Nat.le_of_ble_eq_true rfl)) (f_MLineRows_reversed_ok (dep := dep + 0) hM34 h) rfl ?_
                      intro x63 h
                      replace h := hQ63 _ h
                      refine iq_goto hS J_MLineRows_isThirteen_d176 (t := 181) rfl ?_
                      exact J62 _ _ l57 l58 l59 l61 (ed_some h)
                  refine iq_if_eq hS 134 J_MLineRows_isThirteen_d131 (t := 157) rfl (fun q131 => ?_) rfl (fun q131 => ?_)
                  · replace h := ed_pos q131 h
                    exact J54  _ (lk_1r l50 (by decide)) (lk_1i l51 (by decide)) (lk_1i l52 (by decide)) (lk_1i l53 (by decide)) lk_1s (hk54  h)
                  · replace h := ed_neg q131 h
                    refine iq_iload_n hS 135 J_MLineRows_isThirteen_d134 (lk_1i l52 (by decide)) rfl ?_
                    refine iq_bipush hS 137 J_MLineRows_isThirteen_d135 (v := 7) (by decide +kernel) rfl ?_
                    refine iq_icmp_gt hS 140 J_MLineRows_isThirteen_d137 (t := 155) rfl (fun q137 => ?_) rfl (fun q137 => ?_)
                    · replace h := ed_pos q137 h
                      refine iq_iconst hS 156 J_MLineRows_isThirteen_d155 (v := 0) (by decide +kernel) rfl ?_
                      exact iq_iret J_MLineRows_isThirteen_d156 rfl rfl ⟨_, rfl, hM34, ed_some (hR5 _ (lq_r h hq5))⟩
                    · replace h := ed_neg q137 h
                      refine iq_aload_n hS 141 J_MLineRows_isThirteen_d140 (lk_1r l50 (by decide)) rfl ?_
                      refine iq_getR hS 144 J_MLineRows_isThirteen_d141 lf_13_119 (Or.inr ⟨_, rfl⟩) (ka_96 hM34) (ra_96_1 hM34) rfl ?_
                      refine iq_iload hS 146 J_MLineRows_isThirteen_d144 (lk_1i l53 (by decide)) rfl ?_
                      obtain ⟨Q55, hQ55, h⟩ := bd1_ed h
                      refine iq_cpI hS 149 J_MLineRows_isThirteen_d146 rfl (pr_stat (vs := [_]) lc_13_233 lT_378 rfl rfl (by decide) rfl (Nat.le_of_ble_eq_true rfl) (Nat.le_of_ble_eq_true rfl)) (f_MLineRows_reversed_ok (dep := dep + 0) hM34 h) rfl ?_
                      intro x55 h
                      replace h := hQ55 _ h
                      obtain ⟨Q56, hQ56, h⟩ := bd1_ed h
                      refine iq_cpI hS 152 J_MLineRows_isThirteen_d149 rfl (pr_stat (vs := [_, _]) lc_13_247 lT_510 rfl rfl (by decide) rfl (Nat.le_of_ble_eq_true rfl) (Nat.le_of_ble_eq_true rfl)) (f_MLineRows_place_1_ok (dep := dep + 0) hM34 h) rfl ?_
                      intro x56 h
                      replace h := hQ56 _ h
                      refine iq_if_ge hS 155 J_MLineRows_isThirteen_d152 (t := 157) rfl (fun q152 => ?_) rfl (fun q152 => ?_)
                      · replace h := ed_pos q152 h
                        exact J54  _ (lk_1r l50 (by decide)) (lk_1i l51 (by decide)) (lk_1i l52 (by decide)) (lk_1i l53 (by decide)) lk_1s (hk54  h)
                      · replace h := ed_neg q152 h
                        refine iq_iconst hS 156 J_MLineRows_isThirteen_d155 (v := 0) (by decide +kernel) rfl ?_
                        exact iq_iret J_MLineRows_isThirteen_d156 rfl rfl ⟨_, rfl, hM34, ed_some (hR5 _ (lq_r h hq5))⟩
                refine iq_if_ge hS 122 J_MLineRows_isThirteen_d119 (t := 126) rfl (fun q119 => ?_) rfl (fun q119 => ?_)
                · refine iq_iconst hS 127 J_MLineRows_isThirteen_d126 (v := 0) (by decide +kernel) rfl ?_
                  exact J47 _ _ (by rw [if_pos q119]) (lk_1r (lk_1r l41 (by decide)) (by decide)) (lk_1i (lk_1i l42 (by decide)) (by decide)) (lk_1i (lk_1i l43 (by decide)) (by decide)) lk_1s
                · refine iq_iconst hS 123 J_MLineRows_isThirteen_d122 (v := 1) (by decide +kernel) rfl ?_
                  refine iq_goto hS J_MLineRows_isThirteen_d123 (t := 127) rfl ?_
                  exact J47 _ _ (by rw [if_neg q119]) (lk_1r (lk_1r l41 (by decide)) (by decide)) (lk_1i (lk_1i l42 (by decide)) (by decide)) (lk_1i (lk_1i l43 (by decide)) (by decide)) lk_1s
              refine iq_icmp_ge hS 71 J_MLineRows_isThirteen_d68 (t := 81) rfl (fun q68 => ?_) rfl (fun q68 => ?_)
              · refine iq_bipush hS 83 J_MLineRows_isThirteen_d81 (v := 32) (by decide +kernel) rfl ?_
                refine iq_iconst hS 84 J_MLineRows_isThirteen_d83 (v := 4) (by decide +kernel) rfl ?_
                refine iq_iload_n hS 85 J_MLineRows_isThirteen_d84 l37 rfl ?_
                refine iq_bipush hS 87 J_MLineRows_isThirteen_d85 (v := 8) (by decide +kernel) rfl ?_
                refine iq_isub hS 88 J_MLineRows_isThirteen_d87 rfl ?_
                refine iq_imul hS 89 J_MLineRows_isThirteen_d88 rfl ?_
                refine iq_iadd hS 90 J_MLineRows_isThirteen_d89 rfl ?_
                exact J38 _ _ (by rw [if_pos q68]) l35 l36 l37
              · refine iq_iconst hS 72 J_MLineRows_isThirteen_d71 (v := 3) (by decide +kernel) rfl ?_
                refine iq_iconst hS 73 J_MLineRows_isThirteen_d72 (v := 4) (by decide +kernel) rfl ?_
                refine iq_iload_n hS 74 J_MLineRows_isThirteen_d73 l37 rfl ?_
                refine iq_iconst hS 75 J_MLineRows_isThirteen_d74 (v := 2) (by decide +kernel) rfl ?_
                refine iq_isub hS 76 J_MLineRows_isThirteen_d75 rfl ?_
                refine iq_imul hS 77 J_MLineRows_isThirteen_d76 rfl ?_
                refine iq_iadd hS 78 J_MLineRows_isThirteen_d77 rfl ?_
                refine iq_goto hS J_MLineRows_isThirteen_d78 (t := 90) rfl ?_
                exact J38 _ _ (by rw [if_neg q68]) l35 l36 l37
        exact I5 n5 _ _ _ _ hM (lk_1r (lk_1r (lk_1r l0 (by decide)) (by decide)) (by decide)) (lk_1i lk_1s (by decide)) lk_1s hn5
      · replace h := ed_neg q50 h
        refine iq_iconst hS 54 J_MLineRows_isThirteen_d53 (v := 0) (by decide +kernel) rfl ?_
        exact iq_iret J_MLineRows_isThirteen_d54 rfl rfl ⟨_, rfl, hM, ed_some h⟩
noncomputable def f_MLineRows_isSome (M : im_M) : Option (Int32 × im_M) := if ¬ (im_i M 96 10) = 59 then if (im_i M 96 10) < 19 then some (0, M) else if ¬ (((im_i M 96 10) - 7) - ((im_i M 96 10) - 7) / 6 * 6) = 0 then some (0, M) else bd2 (f_MLineRows_isRow (((im_i M 96 10) - 7) / 6) M) fun (x1 : Int32) (M1 : im_M) => if x1 = 0 then some (0, M1) else some (1, M1) else bd2 (f_MLineRows_isThirteen M) fun (x2 : Int32) (M2 : im_M) => gd (x2 = 0 ∨ x2 = 1) <| some (x2, M2)
theorem J_MLineRows_isSome_d0 : decode J_MLineRows_isSome.2.1 0 = .ok (.aload_n 0, 1) := by decide +kernel
theorem J_MLineRows_isSome_d1 : decode J_MLineRows_isSome.2.1 1 = .ok (.getfield 202, 3) := by decide +kernel
theorem J_MLineRows_isSome_d4 : decode J_MLineRows_isSome.2.1 4 = .ok (.bipush 59, 2) := by decide +kernel
theorem J_MLineRows_isSome_d6 : decode J_MLineRows_isSome.2.1 6 = .ok (.if_icmp .ne 8, 3) := by decide +kernel
theorem J_MLineRows_isSome_d9 : decode J_MLineRows_isSome.2.1 9 = .ok (.aload_n 0, 1) := by decide +kernel
theorem J_MLineRows_isSome_d10 : decode J_MLineRows_isSome.2.1 10 = .ok (.invokevirtual 256, 3) := by decide +kernel
theorem J_MLineRows_isSome_d13 : decode J_MLineRows_isSome.2.1 13 = .ok (.ireturn, 1) := by decide +kernel
theorem J_MLineRows_isSome_d14 : decode J_MLineRows_isSome.2.1 14 = .ok (.aload_n 0, 1) := by decide +kernel
theorem J_MLineRows_isSome_d15 : decode J_MLineRows_isSome.2.1 15 = .ok (.getfield 202, 3) := by decide +kernel
theorem J_MLineRows_isSome_d18 : decode J_MLineRows_isSome.2.1 18 = .ok (.bipush 19, 2) := by decide +kernel
theorem J_MLineRows_isSome_d20 : decode J_MLineRows_isSome.2.1 20 = .ok (.if_icmp .lt 37, 3) := by decide +kernel
theorem J_MLineRows_isSome_d23 : decode J_MLineRows_isSome.2.1 23 = .ok (.aload_n 0, 1) := by decide +kernel
theorem J_MLineRows_isSome_d24 : decode J_MLineRows_isSome.2.1 24 = .ok (.getfield 202, 3) := by decide +kernel
theorem J_MLineRows_isSome_d27 : decode J_MLineRows_isSome.2.1 27 = .ok (.bipush 7, 2) := by decide +kernel
theorem J_MLineRows_isSome_d29 : decode J_MLineRows_isSome.2.1 29 = .ok (.isub, 1) := by decide +kernel
theorem J_MLineRows_isSome_d30 : decode J_MLineRows_isSome.2.1 30 = .ok (.bipush 6, 2) := by decide +kernel
theorem J_MLineRows_isSome_d32 : decode J_MLineRows_isSome.2.1 32 = .ok (.irem, 1) := by decide +kernel
theorem J_MLineRows_isSome_d33 : decode J_MLineRows_isSome.2.1 33 = .ok (.ifCond .ne 24, 3) := by decide +kernel
theorem J_MLineRows_isSome_d36 : decode J_MLineRows_isSome.2.1 36 = .ok (.aload_n 0, 1) := by decide +kernel
theorem J_MLineRows_isSome_d37 : decode J_MLineRows_isSome.2.1 37 = .ok (.aload_n 0, 1) := by decide +kernel
theorem J_MLineRows_isSome_d38 : decode J_MLineRows_isSome.2.1 38 = .ok (.getfield 202, 3) := by decide +kernel
theorem J_MLineRows_isSome_d41 : decode J_MLineRows_isSome.2.1 41 = .ok (.bipush 7, 2) := by decide +kernel
theorem J_MLineRows_isSome_d43 : decode J_MLineRows_isSome.2.1 43 = .ok (.isub, 1) := by decide +kernel
theorem J_MLineRows_isSome_d44 : decode J_MLineRows_isSome.2.1 44 = .ok (.bipush 6, 2) := by decide +kernel
theorem J_MLineRows_isSome_d46 : decode J_MLineRows_isSome.2.1 46 = .ok (.idiv, 1) := by decide +kernel
theorem J_MLineRows_isSome_d47 : decode J_MLineRows_isSome.2.1 47 = .ok (.invokevirtual 260, 3) := by decide +kernel
theorem J_MLineRows_isSome_d50 : decode J_MLineRows_isSome.2.1 50 = .ok (.ifCond .eq 7, 3) := by decide +kernel
theorem J_MLineRows_isSome_d53 : decode J_MLineRows_isSome.2.1 53 = .ok (.iconst 1, 1) := by decide +kernel
theorem J_MLineRows_isSome_d54 : decode J_MLineRows_isSome.2.1 54 = .ok (.goto 4, 3) := by decide +kernel
theorem J_MLineRows_isSome_d57 : decode J_MLineRows_isSome.2.1 57 = .ok (.iconst 0, 1) := by decide +kernel
theorem J_MLineRows_isSome_d58 : decode J_MLineRows_isSome.2.1 58 = .ok (.ireturn, 1) := by decide +kernel
theorem f_MLineRows_isSome_ok {L : Nat} {xs : Nat → Int32} {dep : Nat} {w : Bool} {M : im_M} {Q : Int32 × im_M → Prop} (hM : lw_S w M) (h : ed (f_MLineRows_isSome M) Q) : ia (tb_G L xs) (dep + 2) J_MLineRows_isSome (rwI w Q) (0, lv_args 0 [.ref 96], [], M) := by
  have hS : im_St (tb_G L xs) (dep + 2) J_MLineRows_isSome (ia (tb_G L xs) (dep + 2) J_MLineRows_isSome (rwI w Q)) := ia_St
  unfold f_MLineRows_isSome at h
  have l0 : im_lk (lv_args 0 [.ref 96]) 0 = some (.ref 96) := rfl
  refine iq_aload_n hS 1 J_MLineRows_isSome_d0 l0 rfl ?_
  refine iq_getI hS 4 J_MLineRows_isSome_d1 lf_13_202 (Or.inl rfl) (ka_96 hM) rfl ?_
  refine iq_bipush hS 6 J_MLineRows_isSome_d4 (v := 59) (by decide +kernel) rfl ?_
  refine iq_icmp_ne hS 9 J_MLineRows_isSome_d6 (t := 14) rfl (fun q6 => ?_) rfl (fun q6 => ?_)
  · replace h := ed_pos q6 h
    refine iq_aload_n hS 15 J_MLineRows_isSome_d14 l0 rfl ?_
    refine iq_getI hS 18 J_MLineRows_isSome_d15 lf_13_202 (Or.inl rfl) (ka_96 hM) rfl ?_
    refine iq_bipush hS 20 J_MLineRows_isSome_d18 (v := 19) (by decide +kernel) rfl ?_
    refine iq_icmp_lt hS 23 J_MLineRows_isSome_d20 (t := 57) rfl (fun q20 => ?_) rfl (fun q20 => ?_)
    · replace h := ed_pos q20 h
      refine iq_iconst hS 58 J_MLineRows_isSome_d57 (v := 0) (by decide +kernel) rfl ?_
      exact iq_iret J_MLineRows_isSome_d58 rfl rfl ⟨_, rfl, hM, ed_some h⟩
    · replace h := ed_neg q20 h
      refine iq_aload_n hS 24 J_MLineRows_isSome_d23 l0 rfl ?_
      refine iq_getI hS 27 J_MLineRows_isSome_d24 lf_13_202 (Or.inl rfl) (ka_96 hM) rfl ?_
      refine iq_bipush hS 29 J_MLineRows_isSome_d27 (v := 7) (by decide +kernel) rfl ?_
      refine iq_isub hS 30 J_MLineRows_isSome_d29 rfl ?_
      refine iq_bipush hS 32 J_MLineRows_isSome_d30 (v := 6) (by decide +kernel) rfl ?_
      refine iq_irem hS 33 J_MLineRows_isSome_d32 (by decide) rfl ?_
      refine iq_if_ne hS 36 J_MLineRows_isSome_d33 (t := 57) rfl (fun q33 => ?_) rfl (fun q33 => ?_)
      · replace h := ed_pos q33 h
        refine iq_iconst hS 58 J_MLineRows_isSome_d57 (v := 0) (by decide +kernel) rfl ?_
        exact iq_iret J_MLineRows_isSome_d58 rfl rfl ⟨_, rfl, hM, ed_some h⟩
      · replace h := ed_neg q33 h
        refine iq_aload_n hS 37 J_MLineRows_isSome_d36 l0 rfl ?_
        refine iq_aload_n hS 38 J_MLineRows_isSome_d37 l0 rfl ?_
        refine iq_getI hS 41 J_MLineRows_isSome_d38 lf_13_202 (Or.inl rfl) (ka_96 hM) rfl ?_
        refine iq_bipush hS 43 J_MLineRows_isSome_d41 (v := 7) (by decide +kernel) rfl ?_
        refine iq_isub hS 44 J_MLineRows_isSome_d43 rfl ?_
        refine iq_bipush hS 46 J_MLineRows_isSome_d44 (v := 6) (by decide +kernel) rfl ?_
        refine iq_idiv hS 47 J_MLineRows_isSome_d46 (by decide) rfl ?_
        obtain ⟨Q1, hQ1, h⟩ := bd2_ed h
        refine iq_cwI hS 50 J_MLineRows_isSome_d47 rfl (pr_inst (vs := [_]) lc_13_260 lT_512 rfl rfl (by decide) (by decide) rfl (Nat.le_of_ble_eq_true rfl) (Nat.le_of_ble_eq_true rfl) (fun _ => Or.inl (pr_b (ka_96 hM) (by decide) rfl))) (f_MLineRows_isRow_ok (dep := dep + 0) hM h) rfl ?_
        intro x1 M1 hM1 h
        replace h := hQ1 _ _ h
        refine iq_if_eq hS 53 J_MLineRows_isSome_d50 (t := 57) rfl (fun q50 => ?_) rfl (fun q50 => ?_)
        · replace h := ed_pos q50 h
          refine iq_iconst hS 58 J_MLineRows_isSome_d57 (v := 0) (by decide +kernel) rfl ?_
          exact iq_iret J_MLineRows_isSome_d58 rfl rfl ⟨_, rfl, hM1, ed_some h⟩
        · replace h := ed_neg q50 h
          refine iq_iconst hS 54 J_MLineRows_isSome_d53 (v := 1) (by decide +kernel) rfl ?_
          refine iq_goto hS J_MLineRows_isSome_d54 (t := 58) rfl ?_
          exact iq_iret J_MLineRows_isSome_d58 rfl rfl ⟨_, rfl, hM1, ed_some h⟩
  · replace h := ed_neg q6 h
    refine iq_aload_n hS 10 J_MLineRows_isSome_d9 l0 rfl ?_
    obtain ⟨Q2, hQ2, h⟩ := bd2_ed h
    refine iq_cwI hS 13 J_MLineRows_isSome_d10 rfl (pr_inst (vs := []) lc_13_256 lT_507 rfl rfl (by decide) (by decide) rfl (Nat.le_of_ble_eq_true rfl) (Nat.le_of_ble_eq_true rfl) (fun _ => Or.inl (pr_b (ka_96 hM) (by decide) rfl))) (f_MLineRows_isThirteen_ok (dep := dep + 0) hM h) rfl ?_
    intro x2 M2 hM2 h
    replace h := hQ2 _ _ h
    obtain ⟨g13, h⟩ := ed_gd h
    exact iq_iret J_MLineRows_isSome_d13 rfl (nar_z g13) ⟨_, rfl, hM2, ed_some h⟩
noncomputable def f_MLineRows_reverse_L2 (x2 : Int32) (M3 : im_M) : Option ((Int32 × im_M) ⊕ (im_M)) := if (im_i M3 96 10) ≤ x2 then some (.inr M3) else gd (inb (((im_i M3 96 10) - 1) - x2) 800) <| gd (inb x2 800) <| some (.inl ((x2 + 1), (im_setI M3 104 (Int32.toNatClampNeg x2) (im_i M3 103 (Int32.toNatClampNeg (((im_i M3 96 10) - 1) - x2))))))
noncomputable def f_MLineRows_reverse_L34 (x6 : Int32) (M7 : im_M) : Option ((Int32 × im_M) ⊕ (im_M)) := if (im_i M7 96 10) ≤ x6 then some (.inr M7) else gd (inb x6 800) <| gd (inb x6 800) <| some (.inl ((x6 + 1), (im_setI M7 103 (Int32.toNatClampNeg x6) (im_i M7 104 (Int32.toNatClampNeg x6)))))
noncomputable def f_MLineRows_reverse (M : im_M) : Option (im_M) := bd1 (lp (uc2 (f_MLineRows_reverse_L2)) (0, M)) fun (M4 : im_M) => bd1 (lp (uc2 (f_MLineRows_reverse_L34)) (0, M4)) fun (M8 : im_M) => some M8
theorem J_MLineRows_reverse_d0 : decode J_MLineRows_reverse.2.1 0 = .ok (.iconst 0, 1) := by decide +kernel
theorem J_MLineRows_reverse_d1 : decode J_MLineRows_reverse.2.1 1 = .ok (.istore_n 3, 1) := by decide +kernel
theorem J_MLineRows_reverse_d2 : decode J_MLineRows_reverse.2.1 2 = .ok (.iload_n 3, 1) := by decide +kernel
theorem J_MLineRows_reverse_d3 : decode J_MLineRows_reverse.2.1 3 = .ok (.aload_n 0, 1) := by decide +kernel
theorem J_MLineRows_reverse_d4 : decode J_MLineRows_reverse.2.1 4 = .ok (.getfield 202, 3) := by decide +kernel
theorem J_MLineRows_reverse_d7 : decode J_MLineRows_reverse.2.1 7 = .ok (.if_icmp .ge 25, 3) := by decide +kernel
theorem J_MLineRows_reverse_d10 : decode J_MLineRows_reverse.2.1 10 = .ok (.aload_n 0, 1) := by decide +kernel
theorem J_MLineRows_reverse_d11 : decode J_MLineRows_reverse.2.1 11 = .ok (.getfield 137, 3) := by decide +kernel
theorem J_MLineRows_reverse_d14 : decode J_MLineRows_reverse.2.1 14 = .ok (.iload_n 3, 1) := by decide +kernel
theorem J_MLineRows_reverse_d15 : decode J_MLineRows_reverse.2.1 15 = .ok (.aload_n 1, 1) := by decide +kernel
theorem J_MLineRows_reverse_d16 : decode J_MLineRows_reverse.2.1 16 = .ok (.aload_n 0, 1) := by decide +kernel
theorem J_MLineRows_reverse_d17 : decode J_MLineRows_reverse.2.1 17 = .ok (.getfield 202, 3) := by decide +kernel
theorem J_MLineRows_reverse_d20 : decode J_MLineRows_reverse.2.1 20 = .ok (.iconst 1, 1) := by decide +kernel
theorem J_MLineRows_reverse_d21 : decode J_MLineRows_reverse.2.1 21 = .ok (.isub, 1) := by decide +kernel
theorem J_MLineRows_reverse_d22 : decode J_MLineRows_reverse.2.1 22 = .ok (.iload_n 3, 1) := by decide +kernel
theorem J_MLineRows_reverse_d23 : decode J_MLineRows_reverse.2.1 23 = .ok (.isub, 1) := by decide +kernel
theorem J_MLineRows_reverse_d24 : decode J_MLineRows_reverse.2.1 24 = .ok (.iaload, 1) := by decide +kernel
theorem J_MLineRows_reverse_d25 : decode J_MLineRows_reverse.2.1 25 = .ok (.iastore, 1) := by decide +kernel
theorem J_MLineRows_reverse_d26 : decode J_MLineRows_reverse.2.1 26 = .ok (.iinc 3 1, 3) := by decide +kernel
theorem J_MLineRows_reverse_d29 : decode J_MLineRows_reverse.2.1 29 = .ok (.goto (-27), 3) := by decide +kernel
theorem J_MLineRows_reverse_d32 : decode J_MLineRows_reverse.2.1 32 = .ok (.iconst 0, 1) := by decide +kernel
theorem J_MLineRows_reverse_d33 : decode J_MLineRows_reverse.2.1 33 = .ok (.istore_n 3, 1) := by decide +kernel
theorem J_MLineRows_reverse_d34 : decode J_MLineRows_reverse.2.1 34 = .ok (.iload_n 3, 1) := by decide +kernel
theorem J_MLineRows_reverse_d35 : decode J_MLineRows_reverse.2.1 35 = .ok (.aload_n 0, 1) := by decide +kernel
theorem J_MLineRows_reverse_d36 : decode J_MLineRows_reverse.2.1 36 = .ok (.getfield 202, 3) := by decide +kernel
theorem J_MLineRows_reverse_d39 : decode J_MLineRows_reverse.2.1 39 = .ok (.if_icmp .ge 18, 3) := by decide +kernel
theorem J_MLineRows_reverse_d42 : decode J_MLineRows_reverse.2.1 42 = .ok (.aload_n 2, 1) := by decide +kernel
theorem J_MLineRows_reverse_d43 : decode J_MLineRows_reverse.2.1 43 = .ok (.iload_n 3, 1) := by decide +kernel
theorem J_MLineRows_reverse_d44 : decode J_MLineRows_reverse.2.1 44 = .ok (.aload_n 0, 1) := by decide +kernel
theorem J_MLineRows_reverse_d45 : decode J_MLineRows_reverse.2.1 45 = .ok (.getfield 137, 3) := by decide +kernel
theorem J_MLineRows_reverse_d48 : decode J_MLineRows_reverse.2.1 48 = .ok (.iload_n 3, 1) := by decide +kernel
theorem J_MLineRows_reverse_d49 : decode J_MLineRows_reverse.2.1 49 = .ok (.iaload, 1) := by decide +kernel
theorem J_MLineRows_reverse_d50 : decode J_MLineRows_reverse.2.1 50 = .ok (.iastore, 1) := by decide +kernel
theorem J_MLineRows_reverse_d51 : decode J_MLineRows_reverse.2.1 51 = .ok (.iinc 3 1, 3) := by decide +kernel
theorem J_MLineRows_reverse_d54 : decode J_MLineRows_reverse.2.1 54 = .ok (.goto (-20), 3) := by decide +kernel
theorem J_MLineRows_reverse_d57 : decode J_MLineRows_reverse.2.1 57 = .ok (.return_, 1) := by decide +kernel
theorem f_MLineRows_reverse_ok {L : Nat} {xs : Nat → Int32} {dep : Nat} {w : Bool} {M : im_M} {Q : im_M → Prop} (hM : lw_S w M) (h : ed (f_MLineRows_reverse M) Q) : ia (tb_G L xs) dep J_MLineRows_reverse (rwV w Q) (0, lv_args 0 [.ref 96, .ref 103, .ref 103], [], M) := by
  have hS : im_St (tb_G L xs) dep J_MLineRows_reverse (ia (tb_G L xs) dep J_MLineRows_reverse (rwV w Q)) := ia_St
  unfold f_MLineRows_reverse at h
  have l0 : im_lk (lv_args 0 [.ref 96, .ref 103, .ref 103]) 0 = some (.ref 96) := rfl
  have l1 : im_lk (lv_args 0 [.ref 96, .ref 103, .ref 103]) 1 = some (.ref 103) := rfl
  have l2 : im_lk (lv_args 0 [.ref 96, .ref 103, .ref 103]) 2 = some (.ref 103) := rfl
  refine iq_iconst hS 1 J_MLineRows_reverse_d0 (v := 0) (by decide +kernel) rfl ?_
  refine iq_istore_n hS 2 J_MLineRows_reverse_d1 (by decide) rfl ?_
  obtain ⟨Q1, hQ1, h⟩ := bd1_ed h
  have K1 : ∀ (M2 : im_M) (L' : List (Nat × Value)), lw_S w M2 → im_lk L' 0 = some (.ref 96) → im_lk L' 2 = some (.ref 103) → Q1 M2 → ia (tb_G L xs) dep J_MLineRows_reverse (rwV w Q) (32, L', [], M2) := by
    intro M2 L' hM2 l3 l4 h
    replace h := hQ1 _ h
    refine iq_iconst hS 33 J_MLineRows_reverse_d32 (v := 0) (by decide +kernel) rfl ?_
    refine iq_istore_n hS 34 J_MLineRows_reverse_d33 (by decide) rfl ?_
    obtain ⟨Q5, hQ5, h⟩ := bd1_ed h
    have K5 : ∀ (M6 : im_M) (L' : List (Nat × Value)), lw_S w M6 → Q5 M6 → ia (tb_G L xs) dep J_MLineRows_reverse (rwV w Q) (57, L', [], M6) := by
      intro M6 L' hM6  h
      replace h := hQ5 _ h
      exact iq_ret J_MLineRows_reverse_d57 rfl ⟨rfl, hM6, ed_some h⟩
    obtain ⟨r5, hr5, hq5⟩ := h
    obtain ⟨n5, hn5⟩ := lp_n hr5
    have I5 : ∀ (n : Nat) (x7 : Int32) (M8 : im_M) (L' : List (Nat × Value)), lw_S w M8 → im_lk L' 0 = some (.ref 96) → im_lk L' 2 = some (.ref 103) → im_lk L' 3 = some (.int x7) → lpn (uc2 (f_MLineRows_reverse_L34)) n (x7, M8) = some r5 → ia (tb_G L xs) dep J_MLineRows_reverse (rwV w Q) (34, L', [], M8) := by
      intro n
      induction n with
      | zero => intro x7 M8 L' hM8 l9 l10 l11 hn; exact (lpn_0 hn).elim
      | succ n ih =>
        intro x7 M8 L' hM8 l9 l10 l11 hn
        have h := lpn_ed2 hn
        unfold f_MLineRows_reverse_L34 at h
        refine iq_iload_n hS 35 J_MLineRows_reverse_d34 l11 rfl ?_
        refine iq_aload_n hS 36 J_MLineRows_reverse_d35 l9 rfl ?_
        refine iq_getI hS 39 J_MLineRows_reverse_d36 lf_13_202 (Or.inl rfl) (ka_96 hM8) rfl ?_
        refine iq_icmp_ge hS 42 J_MLineRows_reverse_d39 (t := 57) rfl (fun q39 => ?_) rfl (fun q39 => ?_)
        · replace h := ed_pos q39 h
          exact K5 _ _ hM8  (lq_r h hq5)
        · replace h := ed_neg q39 h
          refine iq_aload_n hS 43 J_MLineRows_reverse_d42 l10 rfl ?_
          refine iq_iload_n hS 44 J_MLineRows_reverse_d43 l11 rfl ?_
          refine iq_aload_n hS 45 J_MLineRows_reverse_d44 l9 rfl ?_
          refine iq_getR hS 48 J_MLineRows_reverse_d45 lf_13_137 (Or.inr ⟨_, rfl⟩) (ka_96 hM8) (ra_96_11 hM8) rfl ?_
          refine iq_iload_n hS 49 J_MLineRows_reverse_d48 l11 rfl ?_
          obtain ⟨g49, h⟩ := ed_gd h
          refine iq_iaload hS 50 J_MLineRows_reverse_d49 ⟨(ka_104 hM8).1, (ka_104 hM8).2, g49.1, ix_lt (kl_104 hM8) g49.2⟩ rfl ?_
          obtain ⟨g50, h⟩ := ed_gd h
          refine iq_iastore hS 51 J_MLineRows_reverse_d50 ⟨(ka_103 hM8).1, (ka_103 hM8).2, g50.1, ix_lt (kl_103 hM8) g50.2⟩ rfl ?_
          refine iq_iincv hS 54 J_MLineRows_reverse_d51 (c := 1) (by decide +kernel) l11 (by decide) rfl ?_
          refine iq_goto hS J_MLineRows_reverse_d54 (t := 34) rfl ?_
          exact ih _ _ _ hM8 (lk_1r l9 (by decide)) (lk_1r l10 (by decide)) lk_1s (lq_l h)
    exact I5 n5 _ _ _ hM2 (lk_1r l3 (by decide)) (lk_1r l4 (by decide)) lk_1s hn5
  obtain ⟨r1, hr1, hq1⟩ := h
  obtain ⟨n1, hn1⟩ := lp_n hr1
  have I1 : ∀ (n : Nat) (x12 : Int32) (M13 : im_M) (L' : List (Nat × Value)), lw_S w M13 → im_lk L' 0 = some (.ref 96) → im_lk L' 1 = some (.ref 103) → im_lk L' 2 = some (.ref 103) → im_lk L' 3 = some (.int x12) → lpn (uc2 (f_MLineRows_reverse_L2)) n (x12, M13) = some r1 → ia (tb_G L xs) dep J_MLineRows_reverse (rwV w Q) (2, L', [], M13) := by
    intro n
    induction n with
    | zero => intro x12 M13 L' hM13 l14 l15 l16 l17 hn; exact (lpn_0 hn).elim
    | succ n ih =>
      intro x12 M13 L' hM13 l14 l15 l16 l17 hn
      have h := lpn_ed2 hn
      unfold f_MLineRows_reverse_L2 at h
      refine iq_iload_n hS 3 J_MLineRows_reverse_d2 l17 rfl ?_
      refine iq_aload_n hS 4 J_MLineRows_reverse_d3 l14 rfl ?_
      refine iq_getI hS 7 J_MLineRows_reverse_d4 lf_13_202 (Or.inl rfl) (ka_96 hM13) rfl ?_
      refine iq_icmp_ge hS 10 J_MLineRows_reverse_d7 (t := 32) rfl (fun q7 => ?_) rfl (fun q7 => ?_)
      · replace h := ed_pos q7 h
        exact K1 _ _ hM13 l14 l16 (lq_r h hq1)
      · replace h := ed_neg q7 h
        refine iq_aload_n hS 11 J_MLineRows_reverse_d10 l14 rfl ?_
        refine iq_getR hS 14 J_MLineRows_reverse_d11 lf_13_137 (Or.inr ⟨_, rfl⟩) (ka_96 hM13) (ra_96_11 hM13) rfl ?_
        refine iq_iload_n hS 15 J_MLineRows_reverse_d14 l17 rfl ?_
        refine iq_aload_n hS 16 J_MLineRows_reverse_d15 l15 rfl ?_
        refine iq_aload_n hS 17 J_MLineRows_reverse_d16 l14 rfl ?_
        refine iq_getI hS 20 J_MLineRows_reverse_d17 lf_13_202 (Or.inl rfl) (ka_96 hM13) rfl ?_
        refine iq_iconst hS 21 J_MLineRows_reverse_d20 (v := 1) (by decide +kernel) rfl ?_
        refine iq_isub hS 22 J_MLineRows_reverse_d21 rfl ?_
        refine iq_iload_n hS 23 J_MLineRows_reverse_d22 l17 rfl ?_
        refine iq_isub hS 24 J_MLineRows_reverse_d23 rfl ?_
        obtain ⟨g24, h⟩ := ed_gd h
        refine iq_iaload hS 25 J_MLineRows_reverse_d24 ⟨(ka_103 hM13).1, (ka_103 hM13).2, g24.1, ix_lt (kl_103 hM13) g24.2⟩ rfl ?_
        obtain ⟨g25, h⟩ := ed_gd h
        refine iq_iastore hS 26 J_MLineRows_reverse_d25 ⟨(ka_104 hM13).1, (ka_104 hM13).2, g25.1, ix_lt (kl_104 hM13) g25.2⟩ rfl ?_
        refine iq_iincv hS 29 J_MLineRows_reverse_d26 (c := 1) (by decide +kernel) l17 (by decide) rfl ?_
        refine iq_goto hS J_MLineRows_reverse_d29 (t := 2) rfl ?_
        exact ih _ _ _ hM13 (lk_1r l14 (by decide)) (lk_1r l15 (by decide)) (lk_1r l16 (by decide)) lk_1s (lq_l h)
  exact I1 n1 _ _ _ hM (lk_1r l0 (by decide)) (lk_1r l1 (by decide)) (lk_1r l2 (by decide)) lk_1s hn1
noncomputable def f_MLineRows_read_L67 (x14 : Int32) (M15 : im_M) : Option ((Int32 × im_M) ⊕ (im_M)) := if (im_i M15 96 17) ≤ x14 then some (.inr M15) else gd (inb x14 300) <| gd (inb x14 300) <| some (.inl ((x14 + 1), (im_setI M15 106 (Int32.toNatClampNeg x14) (im_i M15 107 (Int32.toNatClampNeg x14)))))
noncomputable def f_MLineRows_read (M : im_M) : Option (Int32 × im_M) := bd2 (f_MLineRows_isSome (im_setI M 96 3 0)) fun (x1 : Int32) (M1 : im_M) => bd2 (if ¬ x1 = 0 then some (0, M1) else bd1 (f_MLineRows_reverse M1) fun (M3 : im_M) => bd2 (f_MLineRows_isSome M3) fun (x4 : Int32) (M4 : im_M) => bd1 (f_MLineRows_reverse M4) fun (M5 : im_M) => some (x4, M5)) fun (y6 : Int32) (M7 : im_M) => gd (y6 = 0 ∨ y6 = 1) <| jn0 (fun (_ : Unit) => bd1 (lp (uc2 (f_MLineRows_read_L67)) (0, (im_setI (im_setI M7 96 15 y6) 96 14 0))) fun (M16 : im_M) => some ((im_i (im_setI M16 96 14 (im_i M16 96 17)) 96 14), (im_setI M16 96 14 (im_i M16 96 17)))) fun k11 => if ¬ x1 = 0 then k11 () else if ¬ y6 = 0 then k11 () else some ((-1), (im_setI (im_setI M7 96 15 y6) 96 14 0))
theorem J_MLineRows_read_d0 : decode J_MLineRows_read.2.1 0 = .ok (.aload_n 0, 1) := by decide +kernel
theorem J_MLineRows_read_d1 : decode J_MLineRows_read.2.1 1 = .ok (.iconst 0, 1) := by decide +kernel
theorem J_MLineRows_read_d2 : decode J_MLineRows_read.2.1 2 = .ok (.putfield 149, 3) := by decide +kernel
theorem J_MLineRows_read_d5 : decode J_MLineRows_read.2.1 5 = .ok (.aload_n 0, 1) := by decide +kernel
theorem J_MLineRows_read_d6 : decode J_MLineRows_read.2.1 6 = .ok (.invokevirtual 263, 3) := by decide +kernel
theorem J_MLineRows_read_d9 : decode J_MLineRows_read.2.1 9 = .ok (.istore_n 1, 1) := by decide +kernel
theorem J_MLineRows_read_d10 : decode J_MLineRows_read.2.1 10 = .ok (.iconst 0, 1) := by decide +kernel
theorem J_MLineRows_read_d11 : decode J_MLineRows_read.2.1 11 = .ok (.istore_n 2, 1) := by decide +kernel
theorem J_MLineRows_read_d12 : decode J_MLineRows_read.2.1 12 = .ok (.iload_n 1, 1) := by decide +kernel
theorem J_MLineRows_read_d13 : decode J_MLineRows_read.2.1 13 = .ok (.ifCond .ne 32, 3) := by decide +kernel
theorem J_MLineRows_read_d16 : decode J_MLineRows_read.2.1 16 = .ok (.aload_n 0, 1) := by decide +kernel
theorem J_MLineRows_read_d17 : decode J_MLineRows_read.2.1 17 = .ok (.aload_n 0, 1) := by decide +kernel
theorem J_MLineRows_read_d18 : decode J_MLineRows_read.2.1 18 = .ok (.getfield 134, 3) := by decide +kernel
theorem J_MLineRows_read_d21 : decode J_MLineRows_read.2.1 21 = .ok (.aload_n 0, 1) := by decide +kernel
theorem J_MLineRows_read_d22 : decode J_MLineRows_read.2.1 22 = .ok (.getfield 134, 3) := by decide +kernel
theorem J_MLineRows_read_d25 : decode J_MLineRows_read.2.1 25 = .ok (.invokevirtual 236, 3) := by decide +kernel
theorem J_MLineRows_read_d28 : decode J_MLineRows_read.2.1 28 = .ok (.aload_n 0, 1) := by decide +kernel
theorem J_MLineRows_read_d29 : decode J_MLineRows_read.2.1 29 = .ok (.invokevirtual 263, 3) := by decide +kernel
theorem J_MLineRows_read_d32 : decode J_MLineRows_read.2.1 32 = .ok (.istore_n 2, 1) := by decide +kernel
theorem J_MLineRows_read_d33 : decode J_MLineRows_read.2.1 33 = .ok (.aload_n 0, 1) := by decide +kernel
theorem J_MLineRows_read_d34 : decode J_MLineRows_read.2.1 34 = .ok (.aload_n 0, 1) := by decide +kernel
theorem J_MLineRows_read_d35 : decode J_MLineRows_read.2.1 35 = .ok (.getfield 134, 3) := by decide +kernel
theorem J_MLineRows_read_d38 : decode J_MLineRows_read.2.1 38 = .ok (.aload_n 0, 1) := by decide +kernel
theorem J_MLineRows_read_d39 : decode J_MLineRows_read.2.1 39 = .ok (.getfield 134, 3) := by decide +kernel
theorem J_MLineRows_read_d42 : decode J_MLineRows_read.2.1 42 = .ok (.invokevirtual 236, 3) := by decide +kernel
theorem J_MLineRows_read_d45 : decode J_MLineRows_read.2.1 45 = .ok (.aload_n 0, 1) := by decide +kernel
theorem J_MLineRows_read_d46 : decode J_MLineRows_read.2.1 46 = .ok (.iload_n 2, 1) := by decide +kernel
theorem J_MLineRows_read_d47 : decode J_MLineRows_read.2.1 47 = .ok (.putfield 266, 3) := by decide +kernel
theorem J_MLineRows_read_d50 : decode J_MLineRows_read.2.1 50 = .ok (.aload_n 0, 1) := by decide +kernel
theorem J_MLineRows_read_d51 : decode J_MLineRows_read.2.1 51 = .ok (.iconst 0, 1) := by decide +kernel
theorem J_MLineRows_read_d52 : decode J_MLineRows_read.2.1 52 = .ok (.putfield 270, 3) := by decide +kernel
theorem J_MLineRows_read_d55 : decode J_MLineRows_read.2.1 55 = .ok (.iload_n 1, 1) := by decide +kernel
theorem J_MLineRows_read_d56 : decode J_MLineRows_read.2.1 56 = .ok (.ifCond .ne 9, 3) := by decide +kernel
theorem J_MLineRows_read_d59 : decode J_MLineRows_read.2.1 59 = .ok (.iload_n 2, 1) := by decide +kernel
theorem J_MLineRows_read_d60 : decode J_MLineRows_read.2.1 60 = .ok (.ifCond .ne 5, 3) := by decide +kernel
theorem J_MLineRows_read_d63 : decode J_MLineRows_read.2.1 63 = .ok (.iconst (-1), 1) := by decide +kernel
theorem J_MLineRows_read_d64 : decode J_MLineRows_read.2.1 64 = .ok (.ireturn, 1) := by decide +kernel
theorem J_MLineRows_read_d65 : decode J_MLineRows_read.2.1 65 = .ok (.iconst 0, 1) := by decide +kernel
theorem J_MLineRows_read_d66 : decode J_MLineRows_read.2.1 66 = .ok (.istore_n 3, 1) := by decide +kernel
theorem J_MLineRows_read_d67 : decode J_MLineRows_read.2.1 67 = .ok (.iload_n 3, 1) := by decide +kernel
theorem J_MLineRows_read_d68 : decode J_MLineRows_read.2.1 68 = .ok (.aload_n 0, 1) := by decide +kernel
theorem J_MLineRows_read_d69 : decode J_MLineRows_read.2.1 69 = .ok (.getfield 250, 3) := by decide +kernel
theorem J_MLineRows_read_d72 : decode J_MLineRows_read.2.1 72 = .ok (.if_icmp .ge 21, 3) := by decide +kernel
theorem J_MLineRows_read_d75 : decode J_MLineRows_read.2.1 75 = .ok (.aload_n 0, 1) := by decide +kernel
theorem J_MLineRows_read_d76 : decode J_MLineRows_read.2.1 76 = .ok (.getfield 143, 3) := by decide +kernel
theorem J_MLineRows_read_d79 : decode J_MLineRows_read.2.1 79 = .ok (.iload_n 3, 1) := by decide +kernel
theorem J_MLineRows_read_d80 : decode J_MLineRows_read.2.1 80 = .ok (.aload_n 0, 1) := by decide +kernel
theorem J_MLineRows_read_d81 : decode J_MLineRows_read.2.1 81 = .ok (.getfield 146, 3) := by decide +kernel
theorem J_MLineRows_read_d84 : decode J_MLineRows_read.2.1 84 = .ok (.iload_n 3, 1) := by decide +kernel
theorem J_MLineRows_read_d85 : decode J_MLineRows_read.2.1 85 = .ok (.iaload, 1) := by decide +kernel
theorem J_MLineRows_read_d86 : decode J_MLineRows_read.2.1 86 = .ok (.iastore, 1) := by decide +kernel
theorem J_MLineRows_read_d87 : decode J_MLineRows_read.2.1 87 = .ok (.iinc 3 1, 3) := by decide +kernel
theorem J_MLineRows_read_d90 : decode J_MLineRows_read.2.1 90 = .ok (.goto (-23), 3) := by decide +kernel
theorem J_MLineRows_read_d93 : decode J_MLineRows_read.2.1 93 = .ok (.aload_n 0, 1) := by decide +kernel
theorem J_MLineRows_read_d94 : decode J_MLineRows_read.2.1 94 = .ok (.aload_n 0, 1) := by decide +kernel
theorem J_MLineRows_read_d95 : decode J_MLineRows_read.2.1 95 = .ok (.getfield 250, 3) := by decide +kernel
theorem J_MLineRows_read_d98 : decode J_MLineRows_read.2.1 98 = .ok (.putfield 270, 3) := by decide +kernel
theorem J_MLineRows_read_d101 : decode J_MLineRows_read.2.1 101 = .ok (.aload_n 0, 1) := by decide +kernel
theorem J_MLineRows_read_d102 : decode J_MLineRows_read.2.1 102 = .ok (.getfield 270, 3) := by decide +kernel
theorem J_MLineRows_read_d105 : decode J_MLineRows_read.2.1 105 = .ok (.ireturn, 1) := by decide +kernel
theorem f_MLineRows_read_ok {L : Nat} {xs : Nat → Int32} {dep : Nat} {w : Bool} {M : im_M} {Q : Int32 × im_M → Prop} (hM : lw_S w M) (h : ed (f_MLineRows_read M) Q) : ia (tb_G L xs) (dep + 3) J_MLineRows_read (rwI w Q) (0, lv_args 0 [.ref 96], [], M) := by
  have hS : im_St (tb_G L xs) (dep + 3) J_MLineRows_read (ia (tb_G L xs) (dep + 3) J_MLineRows_read (rwI w Q)) := ia_St
  unfold f_MLineRows_read at h
  have l0 : im_lk (lv_args 0 [.ref 96]) 0 = some (.ref 96) := rfl
  refine iq_aload_n hS 1 J_MLineRows_read_d0 l0 rfl ?_
  refine iq_iconst hS 2 J_MLineRows_read_d1 (v := 0) (by decide +kernel) rfl ?_
  refine iq_putI hS 5 J_MLineRows_read_d2 lf_13_149 (Or.inl rfl) rfl (ka_96 hM) rfl ?_
  refine iq_aload_n hS 6 J_MLineRows_read_d5 l0 rfl ?_
  obtain ⟨Q1, hQ1, h⟩ := bd2_ed h
  refine iq_cwI hS 9 J_MLineRows_read_d6 rfl (pr_inst (vs := []) lc_13_263 lT_506 rfl rfl (by decide) (by decide) rfl (Nat.le_of_ble_eq_true rfl) (Nat.le_of_ble_eq_true rfl) (fun _ => Or.inl (pr_b (ka_96 hM) (by decide) rfl))) (f_MLineRows_isSome_ok (dep := dep + 0) hM h) rfl ?_
  intro x1 M1 hM1 h
  replace h := hQ1 _ _ h
  refine iq_istore_n hS 10 J_MLineRows_read_d9 (by decide) rfl ?_
  refine iq_iconst hS 11 J_MLineRows_read_d10 (v := 0) (by decide +kernel) rfl ?_
  refine iq_istore_n hS 12 J_MLineRows_read_d11 (by decide) rfl ?_
  refine iq_iload_n hS 13 J_MLineRows_read_d12 (lk_1i lk_1s (by decide)) rfl ?_
  obtain ⟨Q2, hQ2, h⟩ := bd2_ed h
  have J2 : ∀ (y6 : Int32) (M7 : im_M) (L' : List (Nat × Value)), lw_S w M7 → im_lk L' 0 = some (.ref 96) → im_lk L' 1 = some (.int x1) → im_lk L' 2 = some (.int y6) → Q2 (y6, M7) → ia (tb_G L xs) (dep + 3) J_MLineRows_read (rwI w Q) (45, L', [], M7) := by
    intro y6 M7 L' hM7 l8 l9 l10 h
    replace h := hQ2 _ _ h
    refine iq_aload_n hS 46 J_MLineRows_read_d45 l8 rfl ?_
    refine iq_iload_n hS 47 J_MLineRows_read_d46 l10 rfl ?_
    obtain ⟨g47, h⟩ := ed_gd h
    refine iq_putZ hS 50 J_MLineRows_read_d47 lf_13_266 (Or.inl rfl) rfl (ka_96 hM7) g47 rfl ?_
    refine iq_aload_n hS 51 J_MLineRows_read_d50 l8 rfl ?_
    refine iq_iconst hS 52 J_MLineRows_read_d51 (v := 0) (by decide +kernel) rfl ?_
    refine iq_putI hS 55 J_MLineRows_read_d52 lf_13_270 (Or.inl rfl) rfl (ka_96 hM7) rfl ?_
    refine iq_iload_n hS 56 J_MLineRows_read_d55 l9 rfl ?_
    obtain ⟨k11, Q11, hQ11, hk11, h⟩ := jn0_ed h
    have J11 : ∀  (L' : List (Nat × Value)), im_lk L' 0 = some (.ref 96) → Q11 () → ia (tb_G L xs) (dep + 3) J_MLineRows_read (rwI w Q) (65, L', [], (im_setI (im_setI M7 96 15 y6) 96 14 0)) := by
      intro  L' l12 h
      replace h := hQ11  h
      refine iq_iconst hS 66 J_MLineRows_read_d65 (v := 0) (by decide +kernel) rfl ?_
      refine iq_istore_n hS 67 J_MLineRows_read_d66 (by decide) rfl ?_
      obtain ⟨Q13, hQ13, h⟩ := bd1_ed h
      have K13 : ∀ (M14 : im_M) (L' : List (Nat × Value)), lw_S w M14 → im_lk L' 0 = some (.ref 96) → Q13 M14 → ia (tb_G L xs) (dep + 3) J_MLineRows_read (rwI w Q) (93, L', [], M14) := by
        intro M14 L' hM14 l15 h
        replace h := hQ13 _ h
        refine iq_aload_n hS 94 J_MLineRows_read_d93 l15 rfl ?_
        refine iq_aload_n hS 95 J_MLineRows_read_d94 l15 rfl ?_
        refine iq_getI hS 98 J_MLineRows_read_d95 lf_13_250 (Or.inl rfl) (ka_96 hM14) rfl ?_
        refine iq_putI hS 101 J_MLineRows_read_d98 lf_13_270 (Or.inl rfl) rfl (ka_96 hM14) rfl ?_
        refine iq_aload_n hS 102 J_MLineRows_read_d101 l15 rfl ?_
        refine iq_getI hS 105 J_MLineRows_read_d102 lf_13_270 (Or.inl rfl) (ka_96 hM14) rfl ?_
        exact iq_iret J_MLineRows_read_d105 rfl rfl ⟨_, rfl, hM14, ed_some h⟩
      obtain ⟨r13, hr13, hq13⟩ := h
      obtain ⟨n13, hn13⟩ := lp_n hr13
      have I13 : ∀ (n : Nat) (x16 : Int32) (M17 : im_M) (L' : List (Nat × Value)), lw_S w M17 → im_lk L' 0 = some (.ref 96) → im_lk L' 3 = some (.int x16) → lpn (uc2 (f_MLineRows_read_L67)) n (x16, M17) = some r13 → ia (tb_G L xs) (dep + 3) J_MLineRows_read (rwI w Q) (67, L', [], M17) := by
        intro n
        induction n with
        | zero => intro x16 M17 L' hM17 l18 l19 hn; exact (lpn_0 hn).elim
        | succ n ih =>
          intro x16 M17 L' hM17 l18 l19 hn
          have h := lpn_ed2 hn
          unfold f_MLineRows_read_L67 at h
          refine iq_iload_n hS 68 J_MLineRows_read_d67 l19 rfl ?_
          refine iq_aload_n hS 69 J_MLineRows_read_d68 l18 rfl ?_
          refine iq_getI hS 72 J_MLineRows_read_d69 lf_13_250 (Or.inl rfl) (ka_96 hM17) rfl ?_
          refine iq_icmp_ge hS 75 J_MLineRows_read_d72 (t := 93) rfl (fun q72 => ?_) rfl (fun q72 => ?_)
          · replace h := ed_pos q72 h
            exact K13 _ _ hM17 l18 (lq_r h hq13)
          · replace h := ed_neg q72 h
            refine iq_aload_n hS 76 J_MLineRows_read_d75 l18 rfl ?_
            refine iq_getR hS 79 J_MLineRows_read_d76 lf_13_143 (Or.inr ⟨_, rfl⟩) (ka_96 hM17) (ra_96_13 hM17) rfl ?_
            refine iq_iload_n hS 80 J_MLineRows_read_d79 l19 rfl ?_
            refine iq_aload_n hS 81 J_MLineRows_read_d80 l18 rfl ?_
            refine iq_getR hS 84 J_MLineRows_read_d81 lf_13_146 (Or.inr ⟨_, rfl⟩) (ka_96 hM17) (ra_96_16 hM17) rfl ?_
            refine iq_iload_n hS 85 J_MLineRows_read_d84 l19 rfl ?_
            obtain ⟨g85, h⟩ := ed_gd h
            refine iq_iaload hS 86 J_MLineRows_read_d85 ⟨(ka_107 hM17).1, (ka_107 hM17).2, g85.1, ix_lt (kl_107 hM17) g85.2⟩ rfl ?_
            obtain ⟨g86, h⟩ := ed_gd h
            refine iq_iastore hS 87 J_MLineRows_read_d86 ⟨(ka_106 hM17).1, (ka_106 hM17).2, g86.1, ix_lt (kl_106 hM17) g86.2⟩ rfl ?_
            refine iq_iincv hS 90 J_MLineRows_read_d87 (c := 1) (by decide +kernel) l19 (by decide) rfl ?_
            refine iq_goto hS J_MLineRows_read_d90 (t := 67) rfl ?_
            exact ih _ _ _ hM17 (lk_1r l18 (by decide)) lk_1s (lq_l h)
      exact I13 n13 _ _ _ hM7 (lk_1r l12 (by decide)) lk_1s hn13
    refine iq_if_ne hS 59 J_MLineRows_read_d56 (t := 65) rfl (fun q56 => ?_) rfl (fun q56 => ?_)
    · replace h := ed_pos q56 h
      exact J11  _ l8 (hk11  h)
    · replace h := ed_neg q56 h
      refine iq_iload_n hS 60 J_MLineRows_read_d59 l10 rfl ?_
      refine iq_if_ne hS 63 J_MLineRows_read_d60 (t := 65) rfl (fun q60 => ?_) rfl (fun q60 => ?_)
      · replace h := ed_pos q60 h
        exact J11  _ l8 (hk11  h)
      · replace h := ed_neg q60 h
        refine iq_iconst hS 64 J_MLineRows_read_d63 (v := (-1)) (by decide +kernel) rfl ?_
        exact iq_iret J_MLineRows_read_d64 rfl rfl ⟨_, rfl, hM7, ed_some h⟩
  refine iq_if_ne hS 16 J_MLineRows_read_d13 (t := 45) rfl (fun q13 => ?_) rfl (fun q13 => ?_)
  · replace h := ed_pos q13 h
    exact J2 _ _ _ hM1 (lk_1r (lk_1r l0 (by decide)) (by decide)) (lk_1i lk_1s (by decide)) lk_1s (ed_some h)
  · replace h := ed_neg q13 h
    refine iq_aload_n hS 17 J_MLineRows_read_d16 (lk_1r (lk_1r l0 (by decide)) (by decide)) rfl ?_
    refine iq_aload_n hS 18 J_MLineRows_read_d17 (lk_1r (lk_1r l0 (by decide)) (by decide)) rfl ?_
    refine iq_getR hS 21 J_MLineRows_read_d18 lf_13_134 (Or.inr ⟨_, rfl⟩) (ka_96 hM1) (ra_96_9 hM1) rfl ?_
    refine iq_aload_n hS 22 J_MLineRows_read_d21 (lk_1r (lk_1r l0 (by decide)) (by decide)) rfl ?_
    refine iq_getR hS 25 J_MLineRows_read_d22 lf_13_134 (Or.inr ⟨_, rfl⟩) (ka_96 hM1) (ra_96_9 hM1) rfl ?_
    obtain ⟨Q3, hQ3, h⟩ := bd1_ed h
    refine iq_cwV hS 28 J_MLineRows_read_d25 rfl (pr_inst (vs := [_, _]) lc_13_236 lT_513 rfl rfl (by decide) (by decide) rfl (Nat.le_of_ble_eq_true rfl) (Nat.le_of_ble_eq_true rfl) (fun _ => Or.inl (pr_b (ka_96 hM1) (by decide) rfl))) (f_MLineRows_reverse_ok (dep := dep + 2) hM1 h) rfl ?_
    intro M3 hM3 h
    replace h := hQ3 _ h
    refine iq_aload_n hS 29 J_MLineRows_read_d28 (lk_1r (lk_1r l0 (by decide)) (by decide)) rfl ?_
    obtain ⟨Q4, hQ4, h⟩ := bd2_ed h
    refine iq_cwI hS 32 J_MLineRows_read_d29 rfl (pr_inst (vs := []) lc_13_263 lT_506 rfl rfl (by decide) (by decide) rfl (Nat.le_of_ble_eq_true rfl) (Nat.le_of_ble_eq_true rfl) (fun _ => Or.inl (pr_b (ka_96 hM3) (by decide) rfl))) (f_MLineRows_isSome_ok (dep := dep + 0) hM3 h) rfl ?_
    intro x4 M4 hM4 h
    replace h := hQ4 _ _ h
    refine iq_istore_n hS 33 J_MLineRows_read_d32 (by decide) rfl ?_
    refine iq_aload_n hS 34 J_MLineRows_read_d33 (lk_1r (lk_1r (lk_1r l0 (by decide)) (by decide)) (by decide)) rfl ?_
    refine iq_aload_n hS 35 J_MLineRows_read_d34 (lk_1r (lk_1r (lk_1r l0 (by decide)) (by decide)) (by decide)) rfl ?_
    refine iq_getR hS 38 J_MLineRows_read_d35 lf_13_134 (Or.inr ⟨_, rfl⟩) (ka_96 hM4) (ra_96_9 hM4) rfl ?_
    refine iq_aload_n hS 39 J_MLineRows_read_d38 (lk_1r (lk_1r (lk_1r l0 (by decide)) (by decide)) (by decide)) rfl ?_
    refine iq_getR hS 42 J_MLineRows_read_d39 lf_13_134 (Or.inr ⟨_, rfl⟩) (ka_96 hM4) (ra_96_9 hM4) rfl ?_
    obtain ⟨Q5, hQ5, h⟩ := bd1_ed h
    refine iq_cwV hS 45 J_MLineRows_read_d42 rfl (pr_inst (vs := [_, _]) lc_13_236 lT_513 rfl rfl (by decide) (by decide) rfl (Nat.le_of_ble_eq_true rfl) (Nat.le_of_ble_eq_true rfl) (fun _ => Or.inl (pr_b (ka_96 hM4) (by decide) rfl))) (f_MLineRows_reverse_ok (dep := dep + 2) hM4 h) rfl ?_
    intro M5 hM5 h
    replace h := hQ5 _ h
    exact J2 _ _ _ hM5 (lk_1r (lk_1r (lk_1r l0 (by decide)) (by decide)) (by decide)) (lk_1i (lk_1i lk_1s (by decide)) (by decide)) lk_1s (ed_some h)
noncomputable def f_MLineRows_sign (p0 : Int32) (M : im_M) : Option (Int32 × im_M) := jn0 (fun (_ : Unit) => some ((-1), (im_setI M 96 3 0))) fun k1 => if p0 < 0 then k1 () else if p0 < (im_i (im_setI M 96 3 0) 96 14) then gd (inb p0 300) <| some ((im_i (im_setI M 96 3 0) 106 (Int32.toNatClampNeg p0)), (im_setI M 96 3 0)) else k1 ()
theorem J_MLineRows_sign_d0 : decode J_MLineRows_sign.2.1 0 = .ok (.aload_n 0, 1) := by decide +kernel
theorem J_MLineRows_sign_d1 : decode J_MLineRows_sign.2.1 1 = .ok (.iconst 0, 1) := by decide +kernel
theorem J_MLineRows_sign_d2 : decode J_MLineRows_sign.2.1 2 = .ok (.putfield 149, 3) := by decide +kernel
theorem J_MLineRows_sign_d5 : decode J_MLineRows_sign.2.1 5 = .ok (.iload_n 1, 1) := by decide +kernel
theorem J_MLineRows_sign_d6 : decode J_MLineRows_sign.2.1 6 = .ok (.ifCond .lt 11, 3) := by decide +kernel
theorem J_MLineRows_sign_d9 : decode J_MLineRows_sign.2.1 9 = .ok (.iload_n 1, 1) := by decide +kernel
theorem J_MLineRows_sign_d10 : decode J_MLineRows_sign.2.1 10 = .ok (.aload_n 0, 1) := by decide +kernel
theorem J_MLineRows_sign_d11 : decode J_MLineRows_sign.2.1 11 = .ok (.getfield 270, 3) := by decide +kernel
theorem J_MLineRows_sign_d14 : decode J_MLineRows_sign.2.1 14 = .ok (.if_icmp .lt 7, 3) := by decide +kernel
theorem J_MLineRows_sign_d17 : decode J_MLineRows_sign.2.1 17 = .ok (.iconst (-1), 1) := by decide +kernel
theorem J_MLineRows_sign_d18 : decode J_MLineRows_sign.2.1 18 = .ok (.goto 9, 3) := by decide +kernel
theorem J_MLineRows_sign_d21 : decode J_MLineRows_sign.2.1 21 = .ok (.aload_n 0, 1) := by decide +kernel
theorem J_MLineRows_sign_d22 : decode J_MLineRows_sign.2.1 22 = .ok (.getfield 143, 3) := by decide +kernel
theorem J_MLineRows_sign_d25 : decode J_MLineRows_sign.2.1 25 = .ok (.iload_n 1, 1) := by decide +kernel
theorem J_MLineRows_sign_d26 : decode J_MLineRows_sign.2.1 26 = .ok (.iaload, 1) := by decide +kernel
theorem J_MLineRows_sign_d27 : decode J_MLineRows_sign.2.1 27 = .ok (.ireturn, 1) := by decide +kernel
theorem f_MLineRows_sign_ok {L : Nat} {xs : Nat → Int32} {dep : Nat} {w : Bool} {p0 : Int32} {M : im_M} {Q : Int32 × im_M → Prop} (hM : lw_S w M) (h : ed (f_MLineRows_sign p0 M) Q) : ia (tb_G L xs) dep J_MLineRows_sign (rwI w Q) (0, lv_args 0 [.ref 96, .int p0], [], M) := by
  have hS : im_St (tb_G L xs) dep J_MLineRows_sign (ia (tb_G L xs) dep J_MLineRows_sign (rwI w Q)) := ia_St
  unfold f_MLineRows_sign at h
  have l0 : im_lk (lv_args 0 [.ref 96, .int p0]) 0 = some (.ref 96) := rfl
  have l1 : im_lk (lv_args 0 [.ref 96, .int p0]) 1 = some (.int p0) := rfl
  refine iq_aload_n hS 1 J_MLineRows_sign_d0 l0 rfl ?_
  refine iq_iconst hS 2 J_MLineRows_sign_d1 (v := 0) (by decide +kernel) rfl ?_
  refine iq_putI hS 5 J_MLineRows_sign_d2 lf_13_149 (Or.inl rfl) rfl (ka_96 hM) rfl ?_
  refine iq_iload_n hS 6 J_MLineRows_sign_d5 l1 rfl ?_
  obtain ⟨k1, Q1, hQ1, hk1, h⟩ := jn0_ed h
  have J1 : ∀  (L' : List (Nat × Value)), Q1 () → ia (tb_G L xs) dep J_MLineRows_sign (rwI w Q) (17, L', [], (im_setI M 96 3 0)) := by
    intro  L'  h
    replace h := hQ1  h
    refine iq_iconst hS 18 J_MLineRows_sign_d17 (v := (-1)) (by decide +kernel) rfl ?_
    refine iq_goto hS J_MLineRows_sign_d18 (t := 27) rfl ?_
    exact iq_iret J_MLineRows_sign_d27 rfl rfl ⟨_, rfl, hM, ed_some h⟩
  refine iq_if_lt hS 9 J_MLineRows_sign_d6 (t := 17) rfl (fun q6 => ?_) rfl (fun q6 => ?_)
  · replace h := ed_pos q6 h
    exact J1  _  (hk1  h)
  · replace h := ed_neg q6 h
    refine iq_iload_n hS 10 J_MLineRows_sign_d9 l1 rfl ?_
    refine iq_aload_n hS 11 J_MLineRows_sign_d10 l0 rfl ?_
    refine iq_getI hS 14 J_MLineRows_sign_d11 lf_13_270 (Or.inl rfl) (ka_96 hM) rfl ?_
    refine iq_icmp_lt hS 17 J_MLineRows_sign_d14 (t := 21) rfl (fun q14 => ?_) rfl (fun q14 => ?_)
    · replace h := ed_pos q14 h
      refine iq_aload_n hS 22 J_MLineRows_sign_d21 l0 rfl ?_
      refine iq_getR hS 25 J_MLineRows_sign_d22 lf_13_143 (Or.inr ⟨_, rfl⟩) (ka_96 hM) (ra_96_13 hM) rfl ?_
      refine iq_iload_n hS 26 J_MLineRows_sign_d25 l1 rfl ?_
      obtain ⟨g26, h⟩ := ed_gd h
      refine iq_iaload hS 27 J_MLineRows_sign_d26 ⟨(ka_106 hM).1, (ka_106 hM).2, g26.1, ix_lt (kl_106 hM) g26.2⟩ rfl ?_
      exact iq_iret J_MLineRows_sign_d27 rfl rfl ⟨_, rfl, hM, ed_some h⟩
    · replace h := ed_neg q14 h
      exact J1  _  (hk1  h)
noncomputable def f_M_bars_L53 (v5 : Int32) (v6 : Int32) (v7 : Int32) (x8 : Int32) (M9 : im_M) : Option ((Int32 × im_M) ⊕ (Int32 × im_M)) := bd2 (f_MDotRows_run v5 v6 x8 v7 M9) fun (x10 : Int32) (M10 : im_M) => if x10 ≤ 0 then some (.inr (x8, M10)) else some (.inl ((x8 + 1), M10))
noncomputable def f_M_bars_L161 (v31 : Int32) (x32 : Int32) (M33 : im_M) : Option ((Int32 × im_M) ⊕ (im_M)) := if v31 ≤ x32 then some (.inr M33) else bd2 (f_MLineRows_sign x32 M33) fun (x34 : Int32) (M34 : im_M) => gd (inb x32 3000) <| some (.inl ((x32 + 1), (im_setI M34 137 (Int32.toNatClampNeg x32) x34)))
noncomputable def f_M_bars_L92 (v15 : Int32) (v16 : Int32) (v17 : Int32) (x18 : Int32) (M19 : im_M) : Option ((Int32 × im_M) ⊕ ((im_M) ⊕ (Int32 × im_M))) := if x18 ≤ 0 then some (.inr (.inl M19)) else jn1 (fun (M36 : im_M) => some (.inl ((x18 + (-2)), M36))) fun k20 => jn0 (fun (_ : Unit) => bd1 (f_M_strip v15 v16 x18 v17 M19) fun (M27 : im_M) => bd2 (f_MLineRows_read M27) fun (x28 : Int32) (M28 : im_M) => if x28 < 0 then k20 M28 else bd1 (lp (uc2 (f_M_bars_L161 x28)) (0, (im_setI (im_setI M28 69 10 ((if ¬ x18 = 59 then 1 else 2) : Int32)) 69 12 x28))) fun (M35 : im_M) => some (.inr (.inr (x28, M35)))) fun k21 => if x18 = 59 then k21 () else if ¬ (x18 - x18 / 6 * 6) = 1 then k20 M19 else k21 ()
noncomputable def f_M_bars (p0 : Int32) (p1 : Int32) (p2 : Int32) (M : im_M) : Option (Int32 × im_M) := bd2 (f_M_isOn (Int32.toInt64 p0) (Int32.toInt64 p1) M) fun (x1 : Int32) (M1 : im_M) => if (im_i (im_setI M1 69 0 ((if x1 = 0 then 1 else 0) : Int32)) 69 0) ≤ 0 then bd2 (f_M_isDark p0 p1 (im_setI (im_setI (im_setI M1 69 0 ((if x1 = 0 then 1 else 0) : Int32)) 69 10 (-1)) 69 12 0)) fun (x3 : Int32) (M3 : im_M) => if ¬ x3 = 0 then bd2 (lp (uc2 (f_M_bars_L53 p0 p1 p2)) (0, M3)) fun (y11 : Int32) (M12 : im_M) => bs1 (lp (uc2 (f_M_bars_L92 p0 p1 p2)) (((if ¬ (y11 - y11 / 2 * 2) = 0 then y11 else (y11 - 1)) : Int32), M12)) (fun (M42 : im_M) => some ((-1), M42)) (fun t => some t) else some ((-1), M3) else some (0, (im_setI M1 69 0 ((if x1 = 0 then 1 else 0) : Int32)))
theorem J_M_bars_d0 : decode J_M_bars.2.1 0 = .ok (.aload_n 0, 1) := by decide +kernel
theorem J_M_bars_d1 : decode J_M_bars.2.1 1 = .ok (.aload_n 0, 1) := by decide +kernel
theorem J_M_bars_d2 : decode J_M_bars.2.1 2 = .ok (.iload_n 1, 1) := by decide +kernel
theorem J_M_bars_d3 : decode J_M_bars.2.1 3 = .ok (.i2l, 1) := by decide +kernel
theorem J_M_bars_d4 : decode J_M_bars.2.1 4 = .ok (.iload_n 2, 1) := by decide +kernel
theorem J_M_bars_d5 : decode J_M_bars.2.1 5 = .ok (.i2l, 1) := by decide +kernel
theorem J_M_bars_d6 : decode J_M_bars.2.1 6 = .ok (.invokevirtual 209, 3) := by decide +kernel
theorem J_M_bars_d9 : decode J_M_bars.2.1 9 = .ok (.ifCond .eq 7, 3) := by decide +kernel
theorem J_M_bars_d12 : decode J_M_bars.2.1 12 = .ok (.iconst 0, 1) := by decide +kernel
theorem J_M_bars_d13 : decode J_M_bars.2.1 13 = .ok (.goto 4, 3) := by decide +kernel
theorem J_M_bars_d16 : decode J_M_bars.2.1 16 = .ok (.iconst 1, 1) := by decide +kernel
theorem J_M_bars_d17 : decode J_M_bars.2.1 17 = .ok (.putfield 58, 3) := by decide +kernel
theorem J_M_bars_d20 : decode J_M_bars.2.1 20 = .ok (.aload_n 0, 1) := by decide +kernel
theorem J_M_bars_d21 : decode J_M_bars.2.1 21 = .ok (.getfield 58, 3) := by decide +kernel
theorem J_M_bars_d24 : decode J_M_bars.2.1 24 = .ok (.ifCond .le 5, 3) := by decide +kernel
theorem J_M_bars_d27 : decode J_M_bars.2.1 27 = .ok (.iconst 0, 1) := by decide +kernel
theorem J_M_bars_d28 : decode J_M_bars.2.1 28 = .ok (.ireturn, 1) := by decide +kernel
theorem J_M_bars_d29 : decode J_M_bars.2.1 29 = .ok (.aload_n 0, 1) := by decide +kernel
theorem J_M_bars_d30 : decode J_M_bars.2.1 30 = .ok (.iconst (-1), 1) := by decide +kernel
theorem J_M_bars_d31 : decode J_M_bars.2.1 31 = .ok (.putfield 51, 3) := by decide +kernel
theorem J_M_bars_d34 : decode J_M_bars.2.1 34 = .ok (.aload_n 0, 1) := by decide +kernel
theorem J_M_bars_d35 : decode J_M_bars.2.1 35 = .ok (.iconst 0, 1) := by decide +kernel
theorem J_M_bars_d36 : decode J_M_bars.2.1 36 = .ok (.putfield 229, 3) := by decide +kernel
theorem J_M_bars_d39 : decode J_M_bars.2.1 39 = .ok (.aload_n 0, 1) := by decide +kernel
theorem J_M_bars_d40 : decode J_M_bars.2.1 40 = .ok (.iload_n 1, 1) := by decide +kernel
theorem J_M_bars_d41 : decode J_M_bars.2.1 41 = .ok (.iload_n 2, 1) := by decide +kernel
theorem J_M_bars_d42 : decode J_M_bars.2.1 42 = .ok (.invokevirtual 213, 3) := by decide +kernel
theorem J_M_bars_d45 : decode J_M_bars.2.1 45 = .ok (.ifCond .ne 5, 3) := by decide +kernel
theorem J_M_bars_d48 : decode J_M_bars.2.1 48 = .ok (.iconst (-1), 1) := by decide +kernel
theorem J_M_bars_d49 : decode J_M_bars.2.1 49 = .ok (.ireturn, 1) := by decide +kernel
theorem J_M_bars_d50 : decode J_M_bars.2.1 50 = .ok (.iconst 0, 1) := by decide +kernel
theorem J_M_bars_d51 : decode J_M_bars.2.1 51 = .ok (.istore 4, 2) := by decide +kernel
theorem J_M_bars_d53 : decode J_M_bars.2.1 53 = .ok (.aload_n 0, 1) := by decide +kernel
theorem J_M_bars_d54 : decode J_M_bars.2.1 54 = .ok (.getfield 23, 3) := by decide +kernel
theorem J_M_bars_d57 : decode J_M_bars.2.1 57 = .ok (.iload_n 1, 1) := by decide +kernel
theorem J_M_bars_d58 : decode J_M_bars.2.1 58 = .ok (.iload_n 2, 1) := by decide +kernel
theorem J_M_bars_d59 : decode J_M_bars.2.1 59 = .ok (.iload 4, 2) := by decide +kernel
theorem J_M_bars_d61 : decode J_M_bars.2.1 61 = .ok (.iload_n 3, 1) := by decide +kernel
theorem J_M_bars_d62 : decode J_M_bars.2.1 62 = .ok (.invokevirtual 219, 3) := by decide +kernel
theorem J_M_bars_d65 : decode J_M_bars.2.1 65 = .ok (.ifCond .le 9, 3) := by decide +kernel
theorem J_M_bars_d68 : decode J_M_bars.2.1 68 = .ok (.iinc 4 1, 3) := by decide +kernel
theorem J_M_bars_d71 : decode J_M_bars.2.1 71 = .ok (.goto (-18), 3) := by decide +kernel
theorem J_M_bars_d74 : decode J_M_bars.2.1 74 = .ok (.iload 4, 2) := by decide +kernel
theorem J_M_bars_d76 : decode J_M_bars.2.1 76 = .ok (.iconst 2, 1) := by decide +kernel
theorem J_M_bars_d77 : decode J_M_bars.2.1 77 = .ok (.irem, 1) := by decide +kernel
theorem J_M_bars_d78 : decode J_M_bars.2.1 78 = .ok (.ifCond .ne 10, 3) := by decide +kernel
theorem J_M_bars_d81 : decode J_M_bars.2.1 81 = .ok (.iload 4, 2) := by decide +kernel
theorem J_M_bars_d83 : decode J_M_bars.2.1 83 = .ok (.iconst 1, 1) := by decide +kernel
theorem J_M_bars_d84 : decode J_M_bars.2.1 84 = .ok (.isub, 1) := by decide +kernel
theorem J_M_bars_d85 : decode J_M_bars.2.1 85 = .ok (.goto 5, 3) := by decide +kernel
theorem J_M_bars_d88 : decode J_M_bars.2.1 88 = .ok (.iload 4, 2) := by decide +kernel
theorem J_M_bars_d90 : decode J_M_bars.2.1 90 = .ok (.istore 5, 2) := by decide +kernel
theorem J_M_bars_d92 : decode J_M_bars.2.1 92 = .ok (.iload 5, 2) := by decide +kernel
theorem J_M_bars_d94 : decode J_M_bars.2.1 94 = .ok (.ifCond .le 105, 3) := by decide +kernel
theorem J_M_bars_d97 : decode J_M_bars.2.1 97 = .ok (.iload 5, 2) := by decide +kernel
theorem J_M_bars_d99 : decode J_M_bars.2.1 99 = .ok (.bipush 59, 2) := by decide +kernel
theorem J_M_bars_d101 : decode J_M_bars.2.1 101 = .ok (.if_icmp .eq 12, 3) := by decide +kernel
theorem J_M_bars_d104 : decode J_M_bars.2.1 104 = .ok (.iload 5, 2) := by decide +kernel
theorem J_M_bars_d106 : decode J_M_bars.2.1 106 = .ok (.bipush 6, 2) := by decide +kernel
theorem J_M_bars_d108 : decode J_M_bars.2.1 108 = .ok (.irem, 1) := by decide +kernel
theorem J_M_bars_d109 : decode J_M_bars.2.1 109 = .ok (.iconst 1, 1) := by decide +kernel
theorem J_M_bars_d110 : decode J_M_bars.2.1 110 = .ok (.if_icmp .ne 83, 3) := by decide +kernel
theorem J_M_bars_d113 : decode J_M_bars.2.1 113 = .ok (.aload_n 0, 1) := by decide +kernel
theorem J_M_bars_d114 : decode J_M_bars.2.1 114 = .ok (.iload_n 1, 1) := by decide +kernel
theorem J_M_bars_d115 : decode J_M_bars.2.1 115 = .ok (.iload_n 2, 1) := by decide +kernel
theorem J_M_bars_d116 : decode J_M_bars.2.1 116 = .ok (.iload 5, 2) := by decide +kernel
theorem J_M_bars_d118 : decode J_M_bars.2.1 118 = .ok (.iload_n 3, 1) := by decide +kernel
theorem J_M_bars_d119 : decode J_M_bars.2.1 119 = .ok (.invokevirtual 251, 3) := by decide +kernel
theorem J_M_bars_d122 : decode J_M_bars.2.1 122 = .ok (.aload_n 0, 1) := by decide +kernel
theorem J_M_bars_d123 : decode J_M_bars.2.1 123 = .ok (.getfield 30, 3) := by decide +kernel
theorem J_M_bars_d126 : decode J_M_bars.2.1 126 = .ok (.invokevirtual 255, 3) := by decide +kernel
theorem J_M_bars_d129 : decode J_M_bars.2.1 129 = .ok (.istore 6, 2) := by decide +kernel
theorem J_M_bars_d131 : decode J_M_bars.2.1 131 = .ok (.iload 6, 2) := by decide +kernel
theorem J_M_bars_d133 : decode J_M_bars.2.1 133 = .ok (.ifCond .lt 60, 3) := by decide +kernel
theorem J_M_bars_d136 : decode J_M_bars.2.1 136 = .ok (.aload_n 0, 1) := by decide +kernel
theorem J_M_bars_d137 : decode J_M_bars.2.1 137 = .ok (.iload 5, 2) := by decide +kernel
theorem J_M_bars_d139 : decode J_M_bars.2.1 139 = .ok (.bipush 59, 2) := by decide +kernel
theorem J_M_bars_d141 : decode J_M_bars.2.1 141 = .ok (.if_icmp .ne 7, 3) := by decide +kernel
theorem J_M_bars_d144 : decode J_M_bars.2.1 144 = .ok (.iconst 2, 1) := by decide +kernel
theorem J_M_bars_d145 : decode J_M_bars.2.1 145 = .ok (.goto 4, 3) := by decide +kernel
theorem J_M_bars_d148 : decode J_M_bars.2.1 148 = .ok (.iconst 1, 1) := by decide +kernel
theorem J_M_bars_d149 : decode J_M_bars.2.1 149 = .ok (.putfield 51, 3) := by decide +kernel
theorem J_M_bars_d152 : decode J_M_bars.2.1 152 = .ok (.aload_n 0, 1) := by decide +kernel
theorem J_M_bars_d153 : decode J_M_bars.2.1 153 = .ok (.iload 6, 2) := by decide +kernel
theorem J_M_bars_d155 : decode J_M_bars.2.1 155 = .ok (.putfield 229, 3) := by decide +kernel
theorem J_M_bars_d158 : decode J_M_bars.2.1 158 = .ok (.iconst 0, 1) := by decide +kernel
theorem J_M_bars_d159 : decode J_M_bars.2.1 159 = .ok (.istore 7, 2) := by decide +kernel
theorem J_M_bars_d161 : decode J_M_bars.2.1 161 = .ok (.iload 7, 2) := by decide +kernel
theorem J_M_bars_d163 : decode J_M_bars.2.1 163 = .ok (.iload 6, 2) := by decide +kernel
theorem J_M_bars_d165 : decode J_M_bars.2.1 165 = .ok (.if_icmp .ge 25, 3) := by decide +kernel
theorem J_M_bars_d168 : decode J_M_bars.2.1 168 = .ok (.aload_n 0, 1) := by decide +kernel
theorem J_M_bars_d169 : decode J_M_bars.2.1 169 = .ok (.getfield 55, 3) := by decide +kernel
theorem J_M_bars_d172 : decode J_M_bars.2.1 172 = .ok (.iload 7, 2) := by decide +kernel
theorem J_M_bars_d174 : decode J_M_bars.2.1 174 = .ok (.aload_n 0, 1) := by decide +kernel
theorem J_M_bars_d175 : decode J_M_bars.2.1 175 = .ok (.getfield 30, 3) := by decide +kernel
theorem J_M_bars_d178 : decode J_M_bars.2.1 178 = .ok (.iload 7, 2) := by decide +kernel
theorem J_M_bars_d180 : decode J_M_bars.2.1 180 = .ok (.invokevirtual 256, 3) := by decide +kernel
theorem J_M_bars_d183 : decode J_M_bars.2.1 183 = .ok (.iastore, 1) := by decide +kernel
theorem J_M_bars_d184 : decode J_M_bars.2.1 184 = .ok (.iinc 7 1, 3) := by decide +kernel
theorem J_M_bars_d187 : decode J_M_bars.2.1 187 = .ok (.goto (-26), 3) := by decide +kernel
theorem J_M_bars_d190 : decode J_M_bars.2.1 190 = .ok (.iload 6, 2) := by decide +kernel
theorem J_M_bars_d192 : decode J_M_bars.2.1 192 = .ok (.ireturn, 1) := by decide +kernel
theorem J_M_bars_d193 : decode J_M_bars.2.1 193 = .ok (.iinc 5 (-2), 3) := by decide +kernel
theorem J_M_bars_d196 : decode J_M_bars.2.1 196 = .ok (.goto (-104), 3) := by decide +kernel
theorem J_M_bars_d199 : decode J_M_bars.2.1 199 = .ok (.iconst (-1), 1) := by decide +kernel
theorem J_M_bars_d200 : decode J_M_bars.2.1 200 = .ok (.ireturn, 1) := by decide +kernel
theorem f_M_bars_ok {L : Nat} {xs : Nat → Int32} {dep : Nat} {w : Bool} {p0 : Int32} {p1 : Int32} {p2 : Int32} {M : im_M} {Q : Int32 × im_M → Prop} (hM : lw_S w M) (h : ed (f_M_bars p0 p1 p2 M) Q) : ia (tb_G L xs) (dep + 4) J_M_bars (rwI w Q) (0, lv_args 0 [.ref 69, .int p0, .int p1, .int p2], [], M) := by
  have hS : im_St (tb_G L xs) (dep + 4) J_M_bars (ia (tb_G L xs) (dep + 4) J_M_bars (rwI w Q)) := ia_St
  unfold f_M_bars at h
  have l0 : im_lk (lv_args 0 [.ref 69, .int p0, .int p1, .int p2]) 0 = some (.ref 69) := rfl
  have l1 : im_lk (lv_args 0 [.ref 69, .int p0, .int p1, .int p2]) 1 = some (.int p0) := rfl
  have l2 : im_lk (lv_args 0 [.ref 69, .int p0, .int p1, .int p2]) 2 = some (.int p1) := rfl
  have l3 : im_lk (lv_args 0 [.ref 69, .int p0, .int p1, .int p2]) 3 = some (.int p2) := rfl
  refine iq_aload_n hS 1 J_M_bars_d0 l0 rfl ?_
  refine iq_aload_n hS 2 J_M_bars_d1 l0 rfl ?_
  refine iq_iload_n hS 3 J_M_bars_d2 l1 rfl ?_
  refine iq_i2l hS 4 J_M_bars_d3 rfl ?_
  refine iq_iload_n hS 5 J_M_bars_d4 l2 rfl ?_
  refine iq_i2l hS 6 J_M_bars_d5 rfl ?_
  obtain ⟨Q1, hQ1, h⟩ := bd2_ed h
  refine iq_cwI hS 9 J_M_bars_d6 rfl (pr_inst (vs := [_, _]) lc_17_209 lT_439 rfl rfl (by decide) (by decide) rfl (Nat.le_of_ble_eq_true rfl) (Nat.le_of_ble_eq_true rfl) (fun _ => Or.inl (pr_b (ka_69 hM) (by decide) rfl))) (f_M_isOn_ok (dep := dep + 0) hM h) rfl ?_
  intro x1 M1 hM1 h
  replace h := hQ1 _ _ h
  have J2 : ∀ (z3 : Int32) (L' : List (Nat × Value)), z3 = ((if x1 = 0 then 1 else 0) : Int32) → im_lk L' 0 = some (.ref 69) → im_lk L' 1 = some (.int p0) → im_lk L' 2 = some (.int p1) → im_lk L' 3 = some (.int p2) → ia (tb_G L xs) (dep + 4) J_M_bars (rwI w Q) (17, L', [.int z3, .ref 69], M1) := by
    intro z3 L' e4 l5 l6 l7 l8
    subst e4
    refine iq_putI hS 20 J_M_bars_d17 lf_17_58 (Or.inl rfl) rfl (ka_69 hM1) rfl ?_
    refine iq_aload_n hS 21 J_M_bars_d20 l5 rfl ?_
    refine iq_getI hS 24 J_M_bars_d21 lf_17_58 (Or.inl rfl) (ka_69 hM1) rfl ?_
    refine iq_if_le hS 27 J_M_bars_d24 (t := 29) rfl (fun q24 => ?_) rfl (fun q24 => ?_)
    · replace h := ed_pos q24 h
      refine iq_aload_n hS 30 J_M_bars_d29 l5 rfl ?_
      refine iq_iconst hS 31 J_M_bars_d30 (v := (-1)) (by decide +kernel) rfl ?_
      refine iq_putI hS 34 J_M_bars_d31 lf_17_51 (Or.inl rfl) rfl (ka_69 hM1) rfl ?_
      refine iq_aload_n hS 35 J_M_bars_d34 l5 rfl ?_
      refine iq_iconst hS 36 J_M_bars_d35 (v := 0) (by decide +kernel) rfl ?_
      refine iq_putI hS 39 J_M_bars_d36 lf_17_229 (Or.inl rfl) rfl (ka_69 hM1) rfl ?_
      refine iq_aload_n hS 40 J_M_bars_d39 l5 rfl ?_
      refine iq_iload_n hS 41 J_M_bars_d40 l6 rfl ?_
      refine iq_iload_n hS 42 J_M_bars_d41 l7 rfl ?_
      obtain ⟨Q9, hQ9, h⟩ := bd2_ed h
      refine iq_cwI hS 45 J_M_bars_d42 rfl (pr_inst (vs := [_, _]) lc_17_213 lT_440 rfl rfl (by decide) (by decide) rfl (Nat.le_of_ble_eq_true rfl) (Nat.le_of_ble_eq_true rfl) (fun _ => Or.inl (pr_b (ka_69 hM1) (by decide) rfl))) (f_M_isDark_ok (dep := dep + 0) hM1 h) rfl ?_
      intro x9 M9 hM9 h
      replace h := hQ9 _ _ h
      refine iq_if_ne hS 48 J_M_bars_d45 (t := 50) rfl (fun q45 => ?_) rfl (fun q45 => ?_)
      · replace h := ed_pos q45 h
        refine iq_iconst hS 51 J_M_bars_d50 (v := 0) (by decide +kernel) rfl ?_
        refine iq_istore hS 53 J_M_bars_d51 (by decide) rfl ?_
        obtain ⟨Q10, hQ10, h⟩ := bd2_ed h
        have K10 : ∀ (y11 : Int32) (M12 : im_M) (L' : List (Nat × Value)), lw_S w M12 → im_lk L' 0 = some (.ref 69) → im_lk L' 1 = some (.int p0) → im_lk L' 2 = some (.int p1) → im_lk L' 3 = some (.int p2) → im_lk L' 4 = some (.int y11) → Q10 (y11, M12) → ia (tb_G L xs) (dep + 4) J_M_bars (rwI w Q) (74, L', [], M12) := by
          intro y11 M12 L' hM12 l13 l14 l15 l16 l17 h
          replace h := hQ10 _ _ h
          refine iq_iload hS 76 J_M_bars_d74 l17 rfl ?_
          refine iq_iconst hS 77 J_M_bars_d76 (v := 2) (by decide +kernel) rfl ?_
          refine iq_irem hS 78 J_M_bars_d77 (by decide) rfl ?_
          have J18 : ∀ (z19 : Int32) (L' : List (Nat × Value)), z19 = ((if ¬ (y11 - y11 / 2 * 2) = 0 then y11 else (y11 - 1)) : Int32) → im_lk L' 0 = some (.ref 69) → im_lk L' 1 = some (.int p0) → im_lk L' 2 = some (.int p1) → im_lk L' 3 = some (.int p2) → ia (tb_G L xs) (dep + 4) J_M_bars (rwI w Q) (90, L', [.int z19], M12) := by
            intro z19 L' e20 l21 l22 l23 l24
            subst e20
            refine iq_istore hS 92 J_M_bars_d90 (by decide) rfl ?_
            obtain ⟨Q25, hQ25, hR25, h⟩ := bs1_ed h
            have K25 : ∀ (M26 : im_M) (L' : List (Nat × Value)), lw_S w M26 → Q25 (.inl M26) → ia (tb_G L xs) (dep + 4) J_M_bars (rwI w Q) (199, L', [], M26) := by
              intro M26 L' hM26  h
              replace h := hQ25 _ h
              refine iq_iconst hS 200 J_M_bars_d199 (v := (-1)) (by decide +kernel) rfl ?_
              exact iq_iret J_M_bars_d200 rfl rfl ⟨_, rfl, hM26, ed_some h⟩
            obtain ⟨r25, hr25, hq25⟩ := h
            obtain ⟨n25, hn25⟩ := lp_n hr25
            have I25 : ∀ (n : Nat) (x27 : Int32) (M28 : im_M) (L' : List (Nat × Value)), lw_S w M28 → im_lk L' 0 = some (.ref 69) → im_lk L' 1 = some (.int p0) → im_lk L' 2 = some (.int p1) → im_lk L' 3 = some (.int p2) → im_lk L' 5 = some (.int x27) → lpn (uc2 (f_M_bars_L92 p0 p1 p2)) n (x27, M28) = some r25 → ia (tb_G L xs) (dep + 4) J_M_bars (rwI w Q) (92, L', [], M28) := by
              intro n
              induction n with
              | zero => intro x27 M28 L' hM28 l29 l30 l31 l32 l33 hn; exact (lpn_0 hn).elim
              | succ n ih =>
                intro x27 M28 L' hM28 l29 l30 l31 l32 l33 hn
                have h := lpn_ed2 hn
                unfold f_M_bars_L92 at h
                refine iq_iload hS 94 J_M_bars_d92 l33 rfl ?_
                refine iq_if_le hS 97 J_M_bars_d94 (t := 199) rfl (fun q94 => ?_) rfl (fun q94 => ?_)
                · replace h := ed_pos q94 h
                  exact K25 _ _ hM28  (lq_r h hq25)
                · replace h := ed_neg q94 h
                  refine iq_iload hS 99 J_M_bars_d97 l33 rfl ?_
                  refine iq_bipush hS 101 J_M_bars_d99 (v := 59) (by decide +kernel) rfl ?_
                  obtain ⟨k34, Q34, hQ34, hk34, h⟩ := jn1_ed h
                  have J34 : ∀ (M57 : im_M) (L' : List (Nat × Value)), lw_S w M57 → im_lk L' 0 = some (.ref 69) → im_lk L' 1 = some (.int p0) → im_lk L' 2 = some (.int p1) → im_lk L' 3 = some (.int p2) → im_lk L' 5 = some (.int x27) → Q34 M57 → ia (tb_G L xs) (dep + 4) J_M_bars (rwI w Q) (193, L', [], M57) := by
                    intro M57 L' hM57 l58 l59 l60 l61 l62 h
                    replace h := hQ34 _ h
                    refine iq_iincv hS 196 J_M_bars_d193 (c := (-2)) (by decide +kernel) l62 (by decide) rfl ?_
                    refine iq_goto hS J_M_bars_d196 (t := 92) rfl ?_
                    exact ih _ _ _ hM57 (lk_1r l58 (by decide)) (lk_1i l59 (by decide)) (lk_1i l60 (by decide)) (lk_1i l61 (by decide)) lk_1s (lq_l h)
                  obtain ⟨k35, Q35, hQ35, hk35, h⟩ := jn0_ed h
                  have J35 : ∀  (L' : List (Nat × Value)), im_lk L' 0 = some (.ref 69) → im_lk L' 1 = some (.int p0) → im_lk L' 2 = some (.int p1) → im_lk L' 3 = some (.int p2) → im_lk L' 5 = some (.int x27) → Q35 () → ia (tb_G L xs) (dep + 4) J_M_bars (rwI w Q) (113, L', [], M28) := by
                    intro  L' l36 l37 l38 l39 l40 h
                    replace h := hQ35  h
                    refine iq_aload_n hS 114 J_M_bars_d113 l36 rfl ?_
                    refine iq_iload_n hS 115 J_M_bars_d114 l37 rfl ?_
                    refine iq_iload_n hS 116 J_M_bars_d115 l38 rfl ?_
                    refine iq_iload hS 118 J_M_bars_d116 l40 rfl ?_
                    refine iq_iload_n hS 119 J_M_bars_d118 l39 rfl ?_
                    obtain ⟨Q41, hQ41, h⟩ := bd1_ed h
                    refine iq_cwV hS 122 J_M_bars_d119 rfl (pr_inst (vs := [_, _, _, _]) lc_17_251 lT_501 rfl rfl (by decide) (by decide) rfl (Nat.le_of_ble_eq_true rfl) (Nat.le_of_ble_eq_true rfl) (fun _ => Or.inl (pr_b (ka_69 hM28) (by decide) rfl))) (f_M_strip_ok (dep := dep + 0) hM28 h) rfl ?_
                    intro M41 hM41 h
                    replace h := hQ41 _ h
                    refine iq_aload_n hS 123 J_M_bars_d122 l36 rfl ?_
                    refine iq_getR hS 126 J_M_bars_d123 lf_17_30 (Or.inl ⟨_, rfl⟩) (ka_69 hM41) (ra_69_5 hM41) rfl ?_
                    obtain ⟨Q42, hQ42, h⟩ := bd2_ed h
                    refine iq_cwI hS 129 J_M_bars_d126 rfl (pr_inst (vs := []) lc_17_255 lT_505 rfl rfl (by decide) (by decide) rfl (Nat.le_of_ble_eq_true rfl) (Nat.le_of_ble_eq_true rfl) (fun _ => Or.inl (pr_b (ka_96 hM41) (by decide) rfl))) (f_MLineRows_read_ok (dep := dep + 0) hM41 h) rfl ?_
                    intro x42 M42 hM42 h
                    replace h := hQ42 _ _ h
                    refine iq_istore hS 131 J_M_bars_d129 (by decide) rfl ?_
                    refine iq_iload hS 133 J_M_bars_d131 lk_1s rfl ?_
                    refine iq_if_lt hS 136 J_M_bars_d133 (t := 193) rfl (fun q133 => ?_) rfl (fun q133 => ?_)
                    · replace h := ed_pos q133 h
                      exact J34 _ _ hM42 (lk_1r l36 (by decide)) (lk_1i l37 (by decide)) (lk_1i l38 (by decide)) (lk_1i l39 (by decide)) (lk_1i l40 (by decide)) (hk34 _ h)
                    · replace h := ed_neg q133 h
                      refine iq_aload_n hS 137 J_M_bars_d136 (lk_1r l36 (by decide)) rfl ?_
                      refine iq_iload hS 139 J_M_bars_d137 (lk_1i l40 (by decide)) rfl ?_
                      refine iq_bipush hS 141 J_M_bars_d139 (v := 59) (by decide +kernel) rfl ?_
                      have J43 : ∀ (z44 : Int32) (L' : List (Nat × Value)), z44 = ((if ¬ x27 = 59 then 1 else 2) : Int32) → im_lk L' 0 = some (.ref 69) → im_lk L' 6 = some (.int x42) → ia (tb_G L xs) (dep + 4) J_M_bars (rwI w Q) (149, L', [.int z44, .ref 69], M42) := by
                        intro z44 L' e45 l46 l47
                        subst e45
                        refine iq_putI hS 152 J_M_bars_d149 lf_17_51 (Or.inl rfl) rfl (ka_69 hM42) rfl ?_
                        refine iq_aload_n hS 153 J_M_bars_d152 l46 rfl ?_
                        refine iq_iload hS 155 J_M_bars_d153 l47 rfl ?_
                        refine iq_putI hS 158 J_M_bars_d155 lf_17_229 (Or.inl rfl) rfl (ka_69 hM42) rfl ?_
                        refine iq_iconst hS 159 J_M_bars_d158 (v := 0) (by decide +kernel) rfl ?_
                        refine iq_istore hS 161 J_M_bars_d159 (by decide) rfl ?_
                        obtain ⟨Q48, hQ48, h⟩ := bd1_ed h
                        have K48 : ∀ (M49 : im_M) (L' : List (Nat × Value)), lw_S w M49 → im_lk L' 6 = some (.int x42) → Q48 M49 → ia (tb_G L xs) (dep + 4) J_M_bars (rwI w Q) (190, L', [], M49) := by
                          intro M49 L' hM49 l50 h
                          replace h := hQ48 _ h
                          refine iq_iload hS 192 J_M_bars_d190 l50 rfl ?_
                          exact iq_iret J_M_bars_d192 rfl rfl ⟨_, rfl, hM49, ed_some (hR25 _ (lq_r h hq25))⟩
                        obtain ⟨r48, hr48, hq48⟩ := h
                        obtain ⟨n48, hn48⟩ := lp_n hr48
                        have I48 : ∀ (n : Nat) (x51 : Int32) (M52 : im_M) (L' : List (Nat × Value)), lw_S w M52 → im_lk L' 0 = some (.ref 69) → im_lk L' 6 = some (.int x42) → im_lk L' 7 = some (.int x51) → lpn (uc2 (f_M_bars_L161 x42)) n (x51, M52) = some r48 → ia (tb_G L xs) (dep + 4) J_M_bars (rwI w Q) (161, L', [], M52) := by
                          intro n
                          induction n with
                          | zero => intro x51 M52 L' hM52 l53 l54 l55 hn; exact (lpn_0 hn).elim
                          | succ n ih =>
                            intro x51 M52 L' hM52 l53 l54 l55 hn
                            have h := lpn_ed2 hn
                            unfold f_M_bars_L161 at h
                            refine iq_iload hS 163 J_M_bars_d161 l55 rfl ?_
                            refine iq_iload hS 165 J_M_bars_d163 l54 rfl ?_
                            refine iq_icmp_ge hS 168 J_M_bars_d165 (t := 190) rfl (fun q165 => ?_) rfl (fun q165 => ?_)
                            · replace h := ed_pos q165 h
                              exact K48 _ _ hM52 l54 (lq_r h hq48)
                            · replace h := ed_neg q165 h
                              refine iq_aload_n hS 169 J_M_bars_d168 l53 rfl ?_
                              refine iq_getR hS 172 J_M_bars_d169 lf_17_55 (Or.inr ⟨_, rfl⟩) (ka_69 hM52) (ra_69_11 hM52) rfl ?_
                              refine iq_iload hS 174 J_M_bars_d172 l55 rfl ?_
                              refine iq_aload_n hS 175 J_M_bars_d174 l53 rfl ?_
                              refine iq_getR hS 178 J_M_bars_d175 lf_17_30 (Or.inl ⟨_, rfl⟩) (ka_69 hM52) (ra_69_5 hM52) rfl ?_
                              refine iq_iload hS 180 J_M_bars_d178 l55 rfl ?_
                              obtain ⟨Q56, hQ56, h⟩ := bd2_ed h
                              refine iq_cwI hS 183 J_M_bars_d180 rfl (pr_inst (vs := [_]) lc_17_256 lT_514 rfl rfl (by decide) (by decide) rfl (Nat.le_of_ble_eq_true rfl) (Nat.le_of_ble_eq_true rfl) (fun _ => Or.inl (pr_b (ka_96 hM52) (by decide) rfl))) (f_MLineRows_sign_ok (dep := dep + 3) hM52 h) rfl ?_
                              intro x56 M56 hM56 h
                              replace h := hQ56 _ _ h
                              obtain ⟨g183, h⟩ := ed_gd h
                              refine iq_iastore hS 184 J_M_bars_d183 ⟨(ka_137 hM56).1, (ka_137 hM56).2, g183.1, ix_lt (kl_137 hM56) g183.2⟩ rfl ?_
                              refine iq_iincv hS 187 J_M_bars_d184 (c := 1) (by decide +kernel) l55 (by decide) rfl ?_
                              refine iq_goto hS J_M_bars_d187 (t := 161) rfl ?_
                              exact ih _ _ _ hM56 (lk_1r l53 (by decide)) (lk_1i l54 (by decide)) lk_1s (lq_l h)
                        exact I48 n48 _ _ _ hM42 (lk_1r l46 (by decide)) (lk_1i l47 (by decide)) lk_1s hn48
                      refine iq_icmp_ne hS 144 J_M_bars_d141 (t := 148) rfl (fun q141 => ?_) rfl (fun q141 => ?_)
                      · refine iq_iconst hS 149 J_M_bars_d148 (v := 1) (by decide +kernel) rfl ?_
                        exact J43 _ _ (by rw [if_pos q141]) (lk_1r l36 (by decide)) lk_1s
                      · refine iq_iconst hS 145 J_M_bars_d144 (v := 2) (by decide +kernel) rfl ?_
                        refine iq_goto hS J_M_bars_d145 (t := 149) rfl ?_
                        exact J43 _ _ (by rw [if_neg q141]) (lk_1r l36 (by decide)) lk_1s
                  refine iq_icmp_eq hS 104 J_M_bars_d101 (t := 113) rfl (fun q101 => ?_) rfl (fun q101 => ?_)
                  · replace h := ed_pos q101 h
                    exact J35  _ l29 l30 l31 l32 l33 (hk35  h)
                  · replace h := ed_neg q101 h
                    refine iq_iload hS 106 J_M_bars_d104 l33 rfl ?_
                    refine iq_bipush hS 108 J_M_bars_d106 (v := 6) (by decide +kernel) rfl ?_
                    refine iq_irem hS 109 J_M_bars_d108 (by decide) rfl ?_
                    refine iq_iconst hS 110 J_M_bars_d109 (v := 1) (by decide +kernel) rfl ?_
                    refine iq_icmp_ne hS 113 J_M_bars_d110 (t := 193) rfl (fun q110 => ?_) rfl (fun q110 => ?_)
                    · replace h := ed_pos q110 h
                      exact J34 _ _ hM28 l29 l30 l31 l32 l33 (hk34 _ h)
                    · replace h := ed_neg q110 h
                      exact J35  _ l29 l30 l31 l32 l33 (hk35  h)
            exact I25 n25 _ _ _ hM12 (lk_1r l21 (by decide)) (lk_1i l22 (by decide)) (lk_1i l23 (by decide)) (lk_1i l24 (by decide)) lk_1s hn25
          refine iq_if_ne hS 81 J_M_bars_d78 (t := 88) rfl (fun q78 => ?_) rfl (fun q78 => ?_)
          · refine iq_iload hS 90 J_M_bars_d88 l17 rfl ?_
            exact J18 _ _ (by rw [if_pos q78]) l13 l14 l15 l16
          · refine iq_iload hS 83 J_M_bars_d81 l17 rfl ?_
            refine iq_iconst hS 84 J_M_bars_d83 (v := 1) (by decide +kernel) rfl ?_
            refine iq_isub hS 85 J_M_bars_d84 rfl ?_
            refine iq_goto hS J_M_bars_d85 (t := 90) rfl ?_
            exact J18 _ _ (by rw [if_neg q78]) l13 l14 l15 l16
        obtain ⟨r10, hr10, hq10⟩ := h
        obtain ⟨n10, hn10⟩ := lp_n hr10
        have I10 : ∀ (n : Nat) (x63 : Int32) (M64 : im_M) (L' : List (Nat × Value)), lw_S w M64 → im_lk L' 0 = some (.ref 69) → im_lk L' 1 = some (.int p0) → im_lk L' 2 = some (.int p1) → im_lk L' 3 = some (.int p2) → im_lk L' 4 = some (.int x63) → lpn (uc2 (f_M_bars_L53 p0 p1 p2)) n (x63, M64) = some r10 → ia (tb_G L xs) (dep + 4) J_M_bars (rwI w Q) (53, L', [], M64) := by
          intro n
          induction n with
          | zero => intro x63 M64 L' hM64 l65 l66 l67 l68 l69 hn; exact (lpn_0 hn).elim
          | succ n ih =>
            intro x63 M64 L' hM64 l65 l66 l67 l68 l69 hn
            have h := lpn_ed2 hn
            unfold f_M_bars_L53 at h
            refine iq_aload_n hS 54 J_M_bars_d53 l65 rfl ?_
            refine iq_getR hS 57 J_M_bars_d54 lf_17_23 (Or.inl ⟨_, rfl⟩) (ka_69 hM64) (ra_69_4 hM64) rfl ?_
            refine iq_iload_n hS 58 J_M_bars_d57 l66 rfl ?_
            refine iq_iload_n hS 59 J_M_bars_d58 l67 rfl ?_
            refine iq_iload hS 61 J_M_bars_d59 l69 rfl ?_
            refine iq_iload_n hS 62 J_M_bars_d61 l68 rfl ?_
            obtain ⟨Q70, hQ70, h⟩ := bd2_ed h
            refine iq_cwI hS 65 J_M_bars_d62 rfl (pr_inst (vs := [_, _, _, _]) lc_17_219 lT_453 rfl rfl (by decide) (by decide) rfl (Nat.le_of_ble_eq_true rfl) (Nat.le_of_ble_eq_true rfl) (fun _ => Or.inl (pr_b (ka_89 hM64) (by decide) rfl))) (f_MDotRows_run_ok (dep := dep + 1) hM64 h) rfl ?_
            intro x70 M70 hM70 h
            replace h := hQ70 _ _ h
            refine iq_if_le hS 68 J_M_bars_d65 (t := 74) rfl (fun q65 => ?_) rfl (fun q65 => ?_)
            · replace h := ed_pos q65 h
              exact K10 _ _ _ hM70 l65 l66 l67 l68 l69 (lq_r h hq10)
            · replace h := ed_neg q65 h
              refine iq_iincv hS 71 J_M_bars_d68 (c := 1) (by decide +kernel) l69 (by decide) rfl ?_
              refine iq_goto hS J_M_bars_d71 (t := 53) rfl ?_
              exact ih _ _ _ hM70 (lk_1r l65 (by decide)) (lk_1i l66 (by decide)) (lk_1i l67 (by decide)) (lk_1i l68 (by decide)) lk_1s (lq_l h)
        exact I10 n10 _ _ _ hM9 (lk_1r l5 (by decide)) (lk_1i l6 (by decide)) (lk_1i l7 (by decide)) (lk_1i l8 (by decide)) lk_1s hn10
      · replace h := ed_neg q45 h
        refine iq_iconst hS 49 J_M_bars_d48 (v := (-1)) (by decide +kernel) rfl ?_
        exact iq_iret J_M_bars_d49 rfl rfl ⟨_, rfl, hM9, ed_some h⟩
    · replace h := ed_neg q24 h
      refine iq_iconst hS 28 J_M_bars_d27 (v := 0) (by decide +kernel) rfl ?_
      exact iq_iret J_M_bars_d28 rfl rfl ⟨_, rfl, hM1, ed_some h⟩
  refine iq_if_eq hS 12 J_M_bars_d9 (t := 16) rfl (fun q9 => ?_) rfl (fun q9 => ?_)
  · refine iq_iconst hS 17 J_M_bars_d16 (v := 1) (by decide +kernel) rfl ?_
    exact J2 _ _ (by rw [if_pos q9]) l0 l1 l2 l3
  · refine iq_iconst hS 13 J_M_bars_d12 (v := 0) (by decide +kernel) rfl ?_
    refine iq_goto hS J_M_bars_d13 (t := 17) rfl ?_
    exact J2 _ _ (by rw [if_neg q9]) l0 l1 l2 l3
noncomputable def f_MSquareRows_reading (p0 : Int32) (M : im_M) : Option (Int32 × im_M) := if (im_i (im_setI M 108 0 ((if p0 < 0 then 1 else (if p0 ≤ 3 then 0 else 1)) : Int32)) 108 0) ≤ 0 then if (im_i (im_setI M 108 0 ((if p0 < 0 then 1 else (if p0 ≤ 3 then 0 else 1)) : Int32)) 108 32) = 0 then some ((-1), (im_setI M 108 0 ((if p0 < 0 then 1 else (if p0 ≤ 3 then 0 else 1)) : Int32))) else gd (inb p0 4) <| some ((im_i (im_setI M 108 0 ((if p0 < 0 then 1 else (if p0 ≤ 3 then 0 else 1)) : Int32)) 129 (Int32.toNatClampNeg p0)), (im_setI M 108 0 ((if p0 < 0 then 1 else (if p0 ≤ 3 then 0 else 1)) : Int32))) else some (0, (im_setI M 108 0 ((if p0 < 0 then 1 else (if p0 ≤ 3 then 0 else 1)) : Int32)))
theorem J_MSquareRows_reading_d0 : decode J_MSquareRows_reading.2.1 0 = .ok (.aload_n 0, 1) := by decide +kernel
theorem J_MSquareRows_reading_d1 : decode J_MSquareRows_reading.2.1 1 = .ok (.iload_n 1, 1) := by decide +kernel
theorem J_MSquareRows_reading_d2 : decode J_MSquareRows_reading.2.1 2 = .ok (.ifCond .lt 8, 3) := by decide +kernel
theorem J_MSquareRows_reading_d5 : decode J_MSquareRows_reading.2.1 5 = .ok (.iload_n 1, 1) := by decide +kernel
theorem J_MSquareRows_reading_d6 : decode J_MSquareRows_reading.2.1 6 = .ok (.iconst 3, 1) := by decide +kernel
theorem J_MSquareRows_reading_d7 : decode J_MSquareRows_reading.2.1 7 = .ok (.if_icmp .le 7, 3) := by decide +kernel
theorem J_MSquareRows_reading_d10 : decode J_MSquareRows_reading.2.1 10 = .ok (.iconst 1, 1) := by decide +kernel
theorem J_MSquareRows_reading_d11 : decode J_MSquareRows_reading.2.1 11 = .ok (.goto 4, 3) := by decide +kernel
theorem J_MSquareRows_reading_d14 : decode J_MSquareRows_reading.2.1 14 = .ok (.iconst 0, 1) := by decide +kernel
theorem J_MSquareRows_reading_d15 : decode J_MSquareRows_reading.2.1 15 = .ok (.putfield 73, 3) := by decide +kernel
theorem J_MSquareRows_reading_d18 : decode J_MSquareRows_reading.2.1 18 = .ok (.aload_n 0, 1) := by decide +kernel
theorem J_MSquareRows_reading_d19 : decode J_MSquareRows_reading.2.1 19 = .ok (.getfield 73, 3) := by decide +kernel
theorem J_MSquareRows_reading_d22 : decode J_MSquareRows_reading.2.1 22 = .ok (.ifCond .le 7, 3) := by decide +kernel
theorem J_MSquareRows_reading_d25 : decode J_MSquareRows_reading.2.1 25 = .ok (.iconst 0, 1) := by decide +kernel
theorem J_MSquareRows_reading_d26 : decode J_MSquareRows_reading.2.1 26 = .ok (.goto 20, 3) := by decide +kernel
theorem J_MSquareRows_reading_d29 : decode J_MSquareRows_reading.2.1 29 = .ok (.aload_n 0, 1) := by decide +kernel
theorem J_MSquareRows_reading_d30 : decode J_MSquareRows_reading.2.1 30 = .ok (.getfield 303, 3) := by decide +kernel
theorem J_MSquareRows_reading_d33 : decode J_MSquareRows_reading.2.1 33 = .ok (.ifCond .eq 12, 3) := by decide +kernel
theorem J_MSquareRows_reading_d36 : decode J_MSquareRows_reading.2.1 36 = .ok (.aload_n 0, 1) := by decide +kernel
theorem J_MSquareRows_reading_d37 : decode J_MSquareRows_reading.2.1 37 = .ok (.getfield 70, 3) := by decide +kernel
theorem J_MSquareRows_reading_d40 : decode J_MSquareRows_reading.2.1 40 = .ok (.iload_n 1, 1) := by decide +kernel
theorem J_MSquareRows_reading_d41 : decode J_MSquareRows_reading.2.1 41 = .ok (.iaload, 1) := by decide +kernel
theorem J_MSquareRows_reading_d42 : decode J_MSquareRows_reading.2.1 42 = .ok (.goto 4, 3) := by decide +kernel
theorem J_MSquareRows_reading_d45 : decode J_MSquareRows_reading.2.1 45 = .ok (.iconst (-1), 1) := by decide +kernel
theorem J_MSquareRows_reading_d46 : decode J_MSquareRows_reading.2.1 46 = .ok (.ireturn, 1) := by decide +kernel
theorem f_MSquareRows_reading_ok {L : Nat} {xs : Nat → Int32} {dep : Nat} {w : Bool} {p0 : Int32} {M : im_M} {Q : Int32 × im_M → Prop} (hM : lw_S w M) (h : ed (f_MSquareRows_reading p0 M) Q) : ia (tb_G L xs) dep J_MSquareRows_reading (rwI w Q) (0, lv_args 0 [.ref 108, .int p0], [], M) := by
  have hS : im_St (tb_G L xs) dep J_MSquareRows_reading (ia (tb_G L xs) dep J_MSquareRows_reading (rwI w Q)) := ia_St
  unfold f_MSquareRows_reading at h
  have l0 : im_lk (lv_args 0 [.ref 108, .int p0]) 0 = some (.ref 108) := rfl
  have l1 : im_lk (lv_args 0 [.ref 108, .int p0]) 1 = some (.int p0) := rfl
  refine iq_aload_n hS 1 J_MSquareRows_reading_d0 l0 rfl ?_
  refine iq_iload_n hS 2 J_MSquareRows_reading_d1 l1 rfl ?_
  have J1 : ∀ (z2 : Int32) (L' : List (Nat × Value)), z2 = ((if p0 < 0 then 1 else (if p0 ≤ 3 then 0 else 1)) : Int32) → im_lk L' 0 = some (.ref 108) → im_lk L' 1 = some (.int p0) → ia (tb_G L xs) dep J_MSquareRows_reading (rwI w Q) (15, L', [.int z2, .ref 108], M) := by
    intro z2 L' e3 l4 l5
    subst e3
    refine iq_putI hS 18 J_MSquareRows_reading_d15 lf_16_73 (Or.inl rfl) rfl (ka_108 hM) rfl ?_
    refine iq_aload_n hS 19 J_MSquareRows_reading_d18 l4 rfl ?_
    refine iq_getI hS 22 J_MSquareRows_reading_d19 lf_16_73 (Or.inl rfl) (ka_108 hM) rfl ?_
    refine iq_if_le hS 25 J_MSquareRows_reading_d22 (t := 29) rfl (fun q22 => ?_) rfl (fun q22 => ?_)
    · replace h := ed_pos q22 h
      refine iq_aload_n hS 30 J_MSquareRows_reading_d29 l4 rfl ?_
      refine iq_getI hS 33 J_MSquareRows_reading_d30 lf_16_303 (Or.inr rfl) (ka_108 hM) rfl ?_
      refine iq_if_eq hS 36 J_MSquareRows_reading_d33 (t := 45) rfl (fun q33 => ?_) rfl (fun q33 => ?_)
      · replace h := ed_pos q33 h
        refine iq_iconst hS 46 J_MSquareRows_reading_d45 (v := (-1)) (by decide +kernel) rfl ?_
        exact iq_iret J_MSquareRows_reading_d46 rfl rfl ⟨_, rfl, hM, ed_some h⟩
      · replace h := ed_neg q33 h
        refine iq_aload_n hS 37 J_MSquareRows_reading_d36 l4 rfl ?_
        refine iq_getR hS 40 J_MSquareRows_reading_d37 lf_16_70 (Or.inr ⟨_, rfl⟩) (ka_108 hM) (ra_108_33 hM) rfl ?_
        refine iq_iload_n hS 41 J_MSquareRows_reading_d40 l5 rfl ?_
        obtain ⟨g41, h⟩ := ed_gd h
        refine iq_iaload hS 42 J_MSquareRows_reading_d41 ⟨(ka_129 hM).1, (ka_129 hM).2, g41.1, ix_lt (kl_129 hM) g41.2⟩ rfl ?_
        refine iq_goto hS J_MSquareRows_reading_d42 (t := 46) rfl ?_
        exact iq_iret J_MSquareRows_reading_d46 rfl rfl ⟨_, rfl, hM, ed_some h⟩
    · replace h := ed_neg q22 h
      refine iq_iconst hS 26 J_MSquareRows_reading_d25 (v := 0) (by decide +kernel) rfl ?_
      refine iq_goto hS J_MSquareRows_reading_d26 (t := 46) rfl ?_
      exact iq_iret J_MSquareRows_reading_d46 rfl rfl ⟨_, rfl, hM, ed_some h⟩
  refine iq_if_lt hS 5 J_MSquareRows_reading_d2 (t := 10) rfl (fun q2 => ?_) rfl (fun q2 => ?_)
  · refine iq_iconst hS 11 J_MSquareRows_reading_d10 (v := 1) (by decide +kernel) rfl ?_
    refine iq_goto hS J_MSquareRows_reading_d11 (t := 15) rfl ?_
    exact J1 _ _ (by rw [if_pos q2]) l0 l1
  · refine iq_iload_n hS 6 J_MSquareRows_reading_d5 l1 rfl ?_
    refine iq_iconst hS 7 J_MSquareRows_reading_d6 (v := 3) (by decide +kernel) rfl ?_
    refine iq_icmp_le hS 10 J_MSquareRows_reading_d7 (t := 14) rfl (fun q7 => ?_) rfl (fun q7 => ?_)
    · refine iq_iconst hS 15 J_MSquareRows_reading_d14 (v := 0) (by decide +kernel) rfl ?_
      exact J1 _ _ (by rw [if_neg q2, if_pos q7]) l0 l1
    · refine iq_iconst hS 11 J_MSquareRows_reading_d10 (v := 1) (by decide +kernel) rfl ?_
      refine iq_goto hS J_MSquareRows_reading_d11 (t := 15) rfl ?_
      exact J1 _ _ (by rw [if_neg q2, if_neg q7]) l0 l1
noncomputable def f_MLineRows_backwards (M : im_M) : Option (Int32 × im_M) := gd ((im_i (im_setI M 96 3 0) 96 15) = 0 ∨ (im_i (im_setI M 96 3 0) 96 15) = 1) <| some ((im_i (im_setI M 96 3 0) 96 15), (im_setI M 96 3 0))
theorem J_MLineRows_backwards_d0 : decode J_MLineRows_backwards.2.1 0 = .ok (.aload_n 0, 1) := by decide +kernel
theorem J_MLineRows_backwards_d1 : decode J_MLineRows_backwards.2.1 1 = .ok (.iconst 0, 1) := by decide +kernel
theorem J_MLineRows_backwards_d2 : decode J_MLineRows_backwards.2.1 2 = .ok (.putfield 149, 3) := by decide +kernel
theorem J_MLineRows_backwards_d5 : decode J_MLineRows_backwards.2.1 5 = .ok (.aload_n 0, 1) := by decide +kernel
theorem J_MLineRows_backwards_d6 : decode J_MLineRows_backwards.2.1 6 = .ok (.getfield 266, 3) := by decide +kernel
theorem J_MLineRows_backwards_d9 : decode J_MLineRows_backwards.2.1 9 = .ok (.ireturn, 1) := by decide +kernel
theorem f_MLineRows_backwards_ok {L : Nat} {xs : Nat → Int32} {dep : Nat} {w : Bool} {M : im_M} {Q : Int32 × im_M → Prop} (hM : lw_S w M) (h : ed (f_MLineRows_backwards M) Q) : ia (tb_G L xs) dep J_MLineRows_backwards (rwI w Q) (0, lv_args 0 [.ref 96], [], M) := by
  have hS : im_St (tb_G L xs) dep J_MLineRows_backwards (ia (tb_G L xs) dep J_MLineRows_backwards (rwI w Q)) := ia_St
  unfold f_MLineRows_backwards at h
  have l0 : im_lk (lv_args 0 [.ref 96]) 0 = some (.ref 96) := rfl
  refine iq_aload_n hS 1 J_MLineRows_backwards_d0 l0 rfl ?_
  refine iq_iconst hS 2 J_MLineRows_backwards_d1 (v := 0) (by decide +kernel) rfl ?_
  refine iq_putI hS 5 J_MLineRows_backwards_d2 lf_13_149 (Or.inl rfl) rfl (ka_96 hM) rfl ?_
  refine iq_aload_n hS 6 J_MLineRows_backwards_d5 l0 rfl ?_
  refine iq_getI hS 9 J_MLineRows_backwards_d6 lf_13_266 (Or.inr rfl) (ka_96 hM) rfl ?_
  obtain ⟨g9, h⟩ := ed_gd h
  exact iq_iret J_MLineRows_backwards_d9 rfl (nar_z g9) ⟨_, rfl, hM, ed_some h⟩
noncomputable def f_MSquareRows_fault (M : im_M) : Option (Int32 × im_M) := some ((im_i (im_setI M 108 0 0) 108 31), (im_setI M 108 0 0))
theorem J_MSquareRows_fault_d0 : decode J_MSquareRows_fault.2.1 0 = .ok (.aload_n 0, 1) := by decide +kernel
theorem J_MSquareRows_fault_d1 : decode J_MSquareRows_fault.2.1 1 = .ok (.iconst 0, 1) := by decide +kernel
theorem J_MSquareRows_fault_d2 : decode J_MSquareRows_fault.2.1 2 = .ok (.putfield 73, 3) := by decide +kernel
theorem J_MSquareRows_fault_d5 : decode J_MSquareRows_fault.2.1 5 = .ok (.aload_n 0, 1) := by decide +kernel
theorem J_MSquareRows_fault_d6 : decode J_MSquareRows_fault.2.1 6 = .ok (.getfield 285, 3) := by decide +kernel
theorem J_MSquareRows_fault_d9 : decode J_MSquareRows_fault.2.1 9 = .ok (.ireturn, 1) := by decide +kernel
theorem f_MSquareRows_fault_ok {L : Nat} {xs : Nat → Int32} {dep : Nat} {w : Bool} {M : im_M} {Q : Int32 × im_M → Prop} (hM : lw_S w M) (h : ed (f_MSquareRows_fault M) Q) : ia (tb_G L xs) dep J_MSquareRows_fault (rwI w Q) (0, lv_args 0 [.ref 108], [], M) := by
  have hS : im_St (tb_G L xs) dep J_MSquareRows_fault (ia (tb_G L xs) dep J_MSquareRows_fault (rwI w Q)) := ia_St
  unfold f_MSquareRows_fault at h
  have l0 : im_lk (lv_args 0 [.ref 108]) 0 = some (.ref 108) := rfl
  refine iq_aload_n hS 1 J_MSquareRows_fault_d0 l0 rfl ?_
  refine iq_iconst hS 2 J_MSquareRows_fault_d1 (v := 0) (by decide +kernel) rfl ?_
  refine iq_putI hS 5 J_MSquareRows_fault_d2 lf_16_73 (Or.inl rfl) rfl (ka_108 hM) rfl ?_
  refine iq_aload_n hS 6 J_MSquareRows_fault_d5 l0 rfl ?_
  refine iq_getI hS 9 J_MSquareRows_fault_d6 lf_16_285 (Or.inl rfl) (ka_108 hM) rfl ?_
  exact iq_iret J_MSquareRows_fault_d9 rfl rfl ⟨_, rfl, hM, ed_some h⟩
noncomputable def f_M_reading (p0 : Int32) (M : im_M) : Option (Int32 × im_M) := if (im_i (im_setI M 69 0 ((if p0 < 0 then 1 else (if p0 ≤ 6 then 0 else 1)) : Int32)) 69 0) ≤ 0 then if ¬ p0 = 6 then jn1 (fun (M5 : im_M) => some ((im_i M5 69 10), M5)) fun k2 => if p0 = 0 then k2 (im_setI M 69 0 ((if p0 < 0 then 1 else (if p0 ≤ 6 then 0 else 1)) : Int32)) else if ¬ (im_i (im_setI M 69 0 ((if p0 < 0 then 1 else (if p0 ≤ 6 then 0 else 1)) : Int32)) 69 10) = (-1) then if ¬ p0 = 5 then if ¬ (im_i (im_setI M 69 0 ((if p0 < 0 then 1 else (if p0 ≤ 6 then 0 else 1)) : Int32)) 69 10) = 0 then some ((-1), (im_setI M 69 0 ((if p0 < 0 then 1 else (if p0 ≤ 6 then 0 else 1)) : Int32))) else bd2 (f_MSquareRows_reading (p0 - 1) (im_setI M 69 0 ((if p0 < 0 then 1 else (if p0 ≤ 6 then 0 else 1)) : Int32))) fun (x3 : Int32) (M3 : im_M) => some (x3, M3) else if ¬ (im_i (im_setI M 69 0 ((if p0 < 0 then 1 else (if p0 ≤ 6 then 0 else 1)) : Int32)) 69 10) = 0 then bd2 (f_MLineRows_backwards (im_setI M 69 0 ((if p0 < 0 then 1 else (if p0 ≤ 6 then 0 else 1)) : Int32))) fun (x4 : Int32) (M4 : im_M) => if x4 = 0 then some (0, M4) else some (1, M4) else some ((-1), (im_setI M 69 0 ((if p0 < 0 then 1 else (if p0 ≤ 6 then 0 else 1)) : Int32))) else k2 (im_setI M 69 0 ((if p0 < 0 then 1 else (if p0 ≤ 6 then 0 else 1)) : Int32)) else bd2 (f_MSquareRows_fault (im_setI M 69 0 ((if p0 < 0 then 1 else (if p0 ≤ 6 then 0 else 1)) : Int32))) fun (x7 : Int32) (M7 : im_M) => some (x7, M7) else some (0, (im_setI M 69 0 ((if p0 < 0 then 1 else (if p0 ≤ 6 then 0 else 1)) : Int32)))
theorem J_M_reading_d0 : decode J_M_reading.2.1 0 = .ok (.aload_n 0, 1) := by decide +kernel
theorem J_M_reading_d1 : decode J_M_reading.2.1 1 = .ok (.iload_n 1, 1) := by decide +kernel
theorem J_M_reading_d2 : decode J_M_reading.2.1 2 = .ok (.ifCond .lt 9, 3) := by decide +kernel
theorem J_M_reading_d5 : decode J_M_reading.2.1 5 = .ok (.iload_n 1, 1) := by decide +kernel
theorem J_M_reading_d6 : decode J_M_reading.2.1 6 = .ok (.bipush 6, 2) := by decide +kernel
theorem J_M_reading_d8 : decode J_M_reading.2.1 8 = .ok (.if_icmp .le 7, 3) := by decide +kernel
theorem J_M_reading_d11 : decode J_M_reading.2.1 11 = .ok (.iconst 1, 1) := by decide +kernel
theorem J_M_reading_d12 : decode J_M_reading.2.1 12 = .ok (.goto 4, 3) := by decide +kernel
theorem J_M_reading_d15 : decode J_M_reading.2.1 15 = .ok (.iconst 0, 1) := by decide +kernel
theorem J_M_reading_d16 : decode J_M_reading.2.1 16 = .ok (.putfield 58, 3) := by decide +kernel
theorem J_M_reading_d19 : decode J_M_reading.2.1 19 = .ok (.aload_n 0, 1) := by decide +kernel
theorem J_M_reading_d20 : decode J_M_reading.2.1 20 = .ok (.getfield 58, 3) := by decide +kernel
theorem J_M_reading_d23 : decode J_M_reading.2.1 23 = .ok (.ifCond .le 5, 3) := by decide +kernel
theorem J_M_reading_d26 : decode J_M_reading.2.1 26 = .ok (.iconst 0, 1) := by decide +kernel
theorem J_M_reading_d27 : decode J_M_reading.2.1 27 = .ok (.ireturn, 1) := by decide +kernel
theorem J_M_reading_d28 : decode J_M_reading.2.1 28 = .ok (.iload_n 1, 1) := by decide +kernel
theorem J_M_reading_d29 : decode J_M_reading.2.1 29 = .ok (.bipush 6, 2) := by decide +kernel
theorem J_M_reading_d31 : decode J_M_reading.2.1 31 = .ok (.if_icmp .ne 11, 3) := by decide +kernel
theorem J_M_reading_d34 : decode J_M_reading.2.1 34 = .ok (.aload_n 0, 1) := by decide +kernel
theorem J_M_reading_d35 : decode J_M_reading.2.1 35 = .ok (.getfield 37, 3) := by decide +kernel
theorem J_M_reading_d38 : decode J_M_reading.2.1 38 = .ok (.invokevirtual 259, 3) := by decide +kernel
theorem J_M_reading_d41 : decode J_M_reading.2.1 41 = .ok (.ireturn, 1) := by decide +kernel
theorem J_M_reading_d42 : decode J_M_reading.2.1 42 = .ok (.iload_n 1, 1) := by decide +kernel
theorem J_M_reading_d43 : decode J_M_reading.2.1 43 = .ok (.ifCond .eq 11, 3) := by decide +kernel
theorem J_M_reading_d46 : decode J_M_reading.2.1 46 = .ok (.aload_n 0, 1) := by decide +kernel
theorem J_M_reading_d47 : decode J_M_reading.2.1 47 = .ok (.getfield 51, 3) := by decide +kernel
theorem J_M_reading_d50 : decode J_M_reading.2.1 50 = .ok (.iconst (-1), 1) := by decide +kernel
theorem J_M_reading_d51 : decode J_M_reading.2.1 51 = .ok (.if_icmp .ne 8, 3) := by decide +kernel
theorem J_M_reading_d54 : decode J_M_reading.2.1 54 = .ok (.aload_n 0, 1) := by decide +kernel
theorem J_M_reading_d55 : decode J_M_reading.2.1 55 = .ok (.getfield 51, 3) := by decide +kernel
theorem J_M_reading_d58 : decode J_M_reading.2.1 58 = .ok (.ireturn, 1) := by decide +kernel
theorem J_M_reading_d59 : decode J_M_reading.2.1 59 = .ok (.iload_n 1, 1) := by decide +kernel
theorem J_M_reading_d60 : decode J_M_reading.2.1 60 = .ok (.iconst 5, 1) := by decide +kernel
theorem J_M_reading_d61 : decode J_M_reading.2.1 61 = .ok (.if_icmp .ne 30, 3) := by decide +kernel
theorem J_M_reading_d64 : decode J_M_reading.2.1 64 = .ok (.aload_n 0, 1) := by decide +kernel
theorem J_M_reading_d65 : decode J_M_reading.2.1 65 = .ok (.getfield 51, 3) := by decide +kernel
theorem J_M_reading_d68 : decode J_M_reading.2.1 68 = .ok (.ifCond .ne 7, 3) := by decide +kernel
theorem J_M_reading_d71 : decode J_M_reading.2.1 71 = .ok (.iconst (-1), 1) := by decide +kernel
theorem J_M_reading_d72 : decode J_M_reading.2.1 72 = .ok (.goto 18, 3) := by decide +kernel
theorem J_M_reading_d75 : decode J_M_reading.2.1 75 = .ok (.aload_n 0, 1) := by decide +kernel
theorem J_M_reading_d76 : decode J_M_reading.2.1 76 = .ok (.getfield 30, 3) := by decide +kernel
theorem J_M_reading_d79 : decode J_M_reading.2.1 79 = .ok (.invokevirtual 260, 3) := by decide +kernel
theorem J_M_reading_d82 : decode J_M_reading.2.1 82 = .ok (.ifCond .eq 7, 3) := by decide +kernel
theorem J_M_reading_d85 : decode J_M_reading.2.1 85 = .ok (.iconst 1, 1) := by decide +kernel
theorem J_M_reading_d86 : decode J_M_reading.2.1 86 = .ok (.goto 4, 3) := by decide +kernel
theorem J_M_reading_d89 : decode J_M_reading.2.1 89 = .ok (.iconst 0, 1) := by decide +kernel
theorem J_M_reading_d90 : decode J_M_reading.2.1 90 = .ok (.ireturn, 1) := by decide +kernel
theorem J_M_reading_d91 : decode J_M_reading.2.1 91 = .ok (.aload_n 0, 1) := by decide +kernel
theorem J_M_reading_d92 : decode J_M_reading.2.1 92 = .ok (.getfield 51, 3) := by decide +kernel
theorem J_M_reading_d95 : decode J_M_reading.2.1 95 = .ok (.ifCond .ne 16, 3) := by decide +kernel
theorem J_M_reading_d98 : decode J_M_reading.2.1 98 = .ok (.aload_n 0, 1) := by decide +kernel
theorem J_M_reading_d99 : decode J_M_reading.2.1 99 = .ok (.getfield 37, 3) := by decide +kernel
theorem J_M_reading_d102 : decode J_M_reading.2.1 102 = .ok (.iload_n 1, 1) := by decide +kernel
theorem J_M_reading_d103 : decode J_M_reading.2.1 103 = .ok (.iconst 1, 1) := by decide +kernel
theorem J_M_reading_d104 : decode J_M_reading.2.1 104 = .ok (.isub, 1) := by decide +kernel
theorem J_M_reading_d105 : decode J_M_reading.2.1 105 = .ok (.invokevirtual 264, 3) := by decide +kernel
theorem J_M_reading_d108 : decode J_M_reading.2.1 108 = .ok (.goto 4, 3) := by decide +kernel
theorem J_M_reading_d111 : decode J_M_reading.2.1 111 = .ok (.iconst (-1), 1) := by decide +kernel
theorem J_M_reading_d112 : decode J_M_reading.2.1 112 = .ok (.ireturn, 1) := by decide +kernel
theorem f_M_reading_ok {L : Nat} {xs : Nat → Int32} {dep : Nat} {w : Bool} {p0 : Int32} {M : im_M} {Q : Int32 × im_M → Prop} (hM : lw_S w M) (h : ed (f_M_reading p0 M) Q) : ia (tb_G L xs) (dep + 1) J_M_reading (rwI w Q) (0, lv_args 0 [.ref 69, .int p0], [], M) := by
  have hS : im_St (tb_G L xs) (dep + 1) J_M_reading (ia (tb_G L xs) (dep + 1) J_M_reading (rwI w Q)) := ia_St
  unfold f_M_reading at h
  have l0 : im_lk (lv_args 0 [.ref 69, .int p0]) 0 = some (.ref 69) := rfl
  have l1 : im_lk (lv_args 0 [.ref 69, .int p0]) 1 = some (.int p0) := rfl
  refine iq_aload_n hS 1 J_M_reading_d0 l0 rfl ?_
  refine iq_iload_n hS 2 J_M_reading_d1 l1 rfl ?_
  have J1 : ∀ (z2 : Int32) (L' : List (Nat × Value)), z2 = ((if p0 < 0 then 1 else (if p0 ≤ 6 then 0 else 1)) : Int32) → im_lk L' 0 = some (.ref 69) → im_lk L' 1 = some (.int p0) → ia (tb_G L xs) (dep + 1) J_M_reading (rwI w Q) (16, L', [.int z2, .ref 69], M) := by
    intro z2 L' e3 l4 l5
    subst e3
    refine iq_putI hS 19 J_M_reading_d16 lf_17_58 (Or.inl rfl) rfl (ka_69 hM) rfl ?_
    refine iq_aload_n hS 20 J_M_reading_d19 l4 rfl ?_
    refine iq_getI hS 23 J_M_reading_d20 lf_17_58 (Or.inl rfl) (ka_69 hM) rfl ?_
    refine iq_if_le hS 26 J_M_reading_d23 (t := 28) rfl (fun q23 => ?_) rfl (fun q23 => ?_)
    · replace h := ed_pos q23 h
      refine iq_iload_n hS 29 J_M_reading_d28 l5 rfl ?_
      refine iq_bipush hS 31 J_M_reading_d29 (v := 6) (by decide +kernel) rfl ?_
      refine iq_icmp_ne hS 34 J_M_reading_d31 (t := 42) rfl (fun q31 => ?_) rfl (fun q31 => ?_)
      · replace h := ed_pos q31 h
        refine iq_iload_n hS 43 J_M_reading_d42 l5 rfl ?_
        obtain ⟨k6, Q6, hQ6, hk6, h⟩ := jn1_ed h
        have J6 : ∀ (M9 : im_M) (L' : List (Nat × Value)), lw_S w M9 → im_lk L' 0 = some (.ref 69) → Q6 M9 → ia (tb_G L xs) (dep + 1) J_M_reading (rwI w Q) (54, L', [], M9) := by
          intro M9 L' hM9 l10 h
          replace h := hQ6 _ h
          refine iq_aload_n hS 55 J_M_reading_d54 l10 rfl ?_
          refine iq_getI hS 58 J_M_reading_d55 lf_17_51 (Or.inl rfl) (ka_69 hM9) rfl ?_
          exact iq_iret J_M_reading_d58 rfl rfl ⟨_, rfl, hM9, ed_some h⟩
        refine iq_if_eq hS 46 J_M_reading_d43 (t := 54) rfl (fun q43 => ?_) rfl (fun q43 => ?_)
        · replace h := ed_pos q43 h
          exact J6 _ _ hM l4 (hk6 _ h)
        · replace h := ed_neg q43 h
          refine iq_aload_n hS 47 J_M_reading_d46 l4 rfl ?_
          refine iq_getI hS 50 J_M_reading_d47 lf_17_51 (Or.inl rfl) (ka_69 hM) rfl ?_
          refine iq_iconst hS 51 J_M_reading_d50 (v := (-1)) (by decide +kernel) rfl ?_
          refine iq_icmp_ne hS 54 J_M_reading_d51 (t := 59) rfl (fun q51 => ?_) rfl (fun q51 => ?_)
          · replace h := ed_pos q51 h
            refine iq_iload_n hS 60 J_M_reading_d59 l5 rfl ?_
            refine iq_iconst hS 61 J_M_reading_d60 (v := 5) (by decide +kernel) rfl ?_
            refine iq_icmp_ne hS 64 J_M_reading_d61 (t := 91) rfl (fun q61 => ?_) rfl (fun q61 => ?_)
            · replace h := ed_pos q61 h
              refine iq_aload_n hS 92 J_M_reading_d91 l4 rfl ?_
              refine iq_getI hS 95 J_M_reading_d92 lf_17_51 (Or.inl rfl) (ka_69 hM) rfl ?_
              refine iq_if_ne hS 98 J_M_reading_d95 (t := 111) rfl (fun q95 => ?_) rfl (fun q95 => ?_)
              · replace h := ed_pos q95 h
                refine iq_iconst hS 112 J_M_reading_d111 (v := (-1)) (by decide +kernel) rfl ?_
                exact iq_iret J_M_reading_d112 rfl rfl ⟨_, rfl, hM, ed_some h⟩
              · replace h := ed_neg q95 h
                refine iq_aload_n hS 99 J_M_reading_d98 l4 rfl ?_
                refine iq_getR hS 102 J_M_reading_d99 lf_17_37 (Or.inl ⟨_, rfl⟩) (ka_69 hM) (ra_69_6 hM) rfl ?_
                refine iq_iload_n hS 103 J_M_reading_d102 l5 rfl ?_
                refine iq_iconst hS 104 J_M_reading_d103 (v := 1) (by decide +kernel) rfl ?_
                refine iq_isub hS 105 J_M_reading_d104 rfl ?_
                obtain ⟨Q7, hQ7, h⟩ := bd2_ed h
                refine iq_cwI hS 108 J_M_reading_d105 rfl (pr_inst (vs := [_]) lc_17_264 lT_518 rfl rfl (by decide) (by decide) rfl (Nat.le_of_ble_eq_true rfl) (Nat.le_of_ble_eq_true rfl) (fun _ => Or.inl (pr_b (ka_108 hM) (by decide) rfl))) (f_MSquareRows_reading_ok (dep := dep + 0) hM h) rfl ?_
                intro x7 M7 hM7 h
                replace h := hQ7 _ _ h
                refine iq_goto hS J_M_reading_d108 (t := 112) rfl ?_
                exact iq_iret J_M_reading_d112 rfl rfl ⟨_, rfl, hM7, ed_some h⟩
            · replace h := ed_neg q61 h
              refine iq_aload_n hS 65 J_M_reading_d64 l4 rfl ?_
              refine iq_getI hS 68 J_M_reading_d65 lf_17_51 (Or.inl rfl) (ka_69 hM) rfl ?_
              refine iq_if_ne hS 71 J_M_reading_d68 (t := 75) rfl (fun q68 => ?_) rfl (fun q68 => ?_)
              · replace h := ed_pos q68 h
                refine iq_aload_n hS 76 J_M_reading_d75 l4 rfl ?_
                refine iq_getR hS 79 J_M_reading_d76 lf_17_30 (Or.inl ⟨_, rfl⟩) (ka_69 hM) (ra_69_5 hM) rfl ?_
                obtain ⟨Q8, hQ8, h⟩ := bd2_ed h
                refine iq_cwI hS 82 J_M_reading_d79 rfl (pr_inst (vs := []) lc_17_260 lT_517 rfl rfl (by decide) (by decide) rfl (Nat.le_of_ble_eq_true rfl) (Nat.le_of_ble_eq_true rfl) (fun _ => Or.inl (pr_b (ka_96 hM) (by decide) rfl))) (f_MLineRows_backwards_ok (dep := dep + 0) hM h) rfl ?_
                intro x8 M8 hM8 h
                replace h := hQ8 _ _ h
                refine iq_if_eq hS 85 J_M_reading_d82 (t := 89) rfl (fun q82 => ?_) rfl (fun q82 => ?_)
                · replace h := ed_pos q82 h
                  refine iq_iconst hS 90 J_M_reading_d89 (v := 0) (by decide +kernel) rfl ?_
                  exact iq_iret J_M_reading_d90 rfl rfl ⟨_, rfl, hM8, ed_some h⟩
                · replace h := ed_neg q82 h
                  refine iq_iconst hS 86 J_M_reading_d85 (v := 1) (by decide +kernel) rfl ?_
                  refine iq_goto hS J_M_reading_d86 (t := 90) rfl ?_
                  exact iq_iret J_M_reading_d90 rfl rfl ⟨_, rfl, hM8, ed_some h⟩
              · replace h := ed_neg q68 h
                refine iq_iconst hS 72 J_M_reading_d71 (v := (-1)) (by decide +kernel) rfl ?_
                refine iq_goto hS J_M_reading_d72 (t := 90) rfl ?_
                exact iq_iret J_M_reading_d90 rfl rfl ⟨_, rfl, hM, ed_some h⟩
          · replace h := ed_neg q51 h
            exact J6 _ _ hM l4 (hk6 _ h)
      · replace h := ed_neg q31 h
        refine iq_aload_n hS 35 J_M_reading_d34 l4 rfl ?_
        refine iq_getR hS 38 J_M_reading_d35 lf_17_37 (Or.inl ⟨_, rfl⟩) (ka_69 hM) (ra_69_6 hM) rfl ?_
        obtain ⟨Q11, hQ11, h⟩ := bd2_ed h
        refine iq_cwI hS 41 J_M_reading_d38 rfl (pr_inst (vs := []) lc_17_259 lT_516 rfl rfl (by decide) (by decide) rfl (Nat.le_of_ble_eq_true rfl) (Nat.le_of_ble_eq_true rfl) (fun _ => Or.inl (pr_b (ka_108 hM) (by decide) rfl))) (f_MSquareRows_fault_ok (dep := dep + 0) hM h) rfl ?_
        intro x11 M11 hM11 h
        replace h := hQ11 _ _ h
        exact iq_iret J_M_reading_d41 rfl rfl ⟨_, rfl, hM11, ed_some h⟩
    · replace h := ed_neg q23 h
      refine iq_iconst hS 27 J_M_reading_d26 (v := 0) (by decide +kernel) rfl ?_
      exact iq_iret J_M_reading_d27 rfl rfl ⟨_, rfl, hM, ed_some h⟩
  refine iq_if_lt hS 5 J_M_reading_d2 (t := 11) rfl (fun q2 => ?_) rfl (fun q2 => ?_)
  · refine iq_iconst hS 12 J_M_reading_d11 (v := 1) (by decide +kernel) rfl ?_
    refine iq_goto hS J_M_reading_d12 (t := 16) rfl ?_
    exact J1 _ _ (by rw [if_pos q2]) l0 l1
  · refine iq_iload_n hS 6 J_M_reading_d5 l1 rfl ?_
    refine iq_bipush hS 8 J_M_reading_d6 (v := 6) (by decide +kernel) rfl ?_
    refine iq_icmp_le hS 11 J_M_reading_d8 (t := 15) rfl (fun q8 => ?_) rfl (fun q8 => ?_)
    · refine iq_iconst hS 16 J_M_reading_d15 (v := 0) (by decide +kernel) rfl ?_
      exact J1 _ _ (by rw [if_neg q2, if_pos q8]) l0 l1
    · refine iq_iconst hS 12 J_M_reading_d11 (v := 1) (by decide +kernel) rfl ?_
      refine iq_goto hS J_M_reading_d12 (t := 16) rfl ?_
      exact J1 _ _ (by rw [if_neg q2, if_neg q8]) l0 l1
noncomputable def f_M_got_L10 (v2 : Int32) (M5 : im_M) (x3 : Int64) (x4 : Int32) : Option ((Int64 × Int32) ⊕ (Int64)) := if 8 ≤ x4 then some (.inr x3) else bd1 (jn0 (fun (_ : Unit) => some x3) fun k7 => if (lg_cmp ((Int32.toInt64 v2) + (Int32.toInt64 x4)) 0) < 0 then k7 () else if 0 ≤ (lg_cmp ((Int32.toInt64 v2) + (Int32.toInt64 x4)) (Int32.toInt64 (im_i M5 69 12))) then k7 () else gd (inb (Int64.toInt32 ((Int32.toInt64 v2) + (Int32.toInt64 x4))) 3000) <| some (x3 ||| ((Int32.toInt64 (im_i M5 137 (Int32.toNatClampNeg (Int64.toInt32 ((Int32.toInt64 v2) + (Int32.toInt64 x4)))))) <<< (Int32.toInt64 ((8 : Int32) * x4) &&& 63)))) fun (y12 : Int64) => some (.inl (y12, (x4 + 1)))
noncomputable def f_M_got (p0 : Int32) (M : im_M) : Option (Int64 × im_M) := bd1 (lp (uc2 (f_M_got_L10 p0 (im_setI M 69 0 0))) (0, 0)) fun (y16 : Int64) => some (y16, (im_setI M 69 0 0))
theorem J_M_got_d0 : decode J_M_got.2.1 0 = .ok (.aload_n 0, 1) := by decide +kernel
theorem J_M_got_d1 : decode J_M_got.2.1 1 = .ok (.iconst 0, 1) := by decide +kernel
theorem J_M_got_d2 : decode J_M_got.2.1 2 = .ok (.putfield 58, 3) := by decide +kernel
theorem J_M_got_d5 : decode J_M_got.2.1 5 = .ok (.lconst 0, 1) := by decide +kernel
theorem J_M_got_d6 : decode J_M_got.2.1 6 = .ok (.lstore_n 2, 1) := by decide +kernel
theorem J_M_got_d7 : decode J_M_got.2.1 7 = .ok (.iconst 0, 1) := by decide +kernel
theorem J_M_got_d8 : decode J_M_got.2.1 8 = .ok (.istore 4, 2) := by decide +kernel
theorem J_M_got_d10 : decode J_M_got.2.1 10 = .ok (.iload 4, 2) := by decide +kernel
theorem J_M_got_d12 : decode J_M_got.2.1 12 = .ok (.bipush 8, 2) := by decide +kernel
theorem J_M_got_d14 : decode J_M_got.2.1 14 = .ok (.if_icmp .ge 57, 3) := by decide +kernel
theorem J_M_got_d17 : decode J_M_got.2.1 17 = .ok (.iload_n 1, 1) := by decide +kernel
theorem J_M_got_d18 : decode J_M_got.2.1 18 = .ok (.i2l, 1) := by decide +kernel
theorem J_M_got_d19 : decode J_M_got.2.1 19 = .ok (.iload 4, 2) := by decide +kernel
theorem J_M_got_d21 : decode J_M_got.2.1 21 = .ok (.i2l, 1) := by decide +kernel
theorem J_M_got_d22 : decode J_M_got.2.1 22 = .ok (.ladd, 1) := by decide +kernel
theorem J_M_got_d23 : decode J_M_got.2.1 23 = .ok (.lstore 5, 2) := by decide +kernel
theorem J_M_got_d25 : decode J_M_got.2.1 25 = .ok (.lload 5, 2) := by decide +kernel
theorem J_M_got_d27 : decode J_M_got.2.1 27 = .ok (.lconst 0, 1) := by decide +kernel
theorem J_M_got_d28 : decode J_M_got.2.1 28 = .ok (.lcmp, 1) := by decide +kernel
theorem J_M_got_d29 : decode J_M_got.2.1 29 = .ok (.ifCond .lt 34, 3) := by decide +kernel
theorem J_M_got_d32 : decode J_M_got.2.1 32 = .ok (.lload 5, 2) := by decide +kernel
theorem J_M_got_d34 : decode J_M_got.2.1 34 = .ok (.aload_n 0, 1) := by decide +kernel
theorem J_M_got_d35 : decode J_M_got.2.1 35 = .ok (.getfield 229, 3) := by decide +kernel
theorem J_M_got_d38 : decode J_M_got.2.1 38 = .ok (.i2l, 1) := by decide +kernel
theorem J_M_got_d39 : decode J_M_got.2.1 39 = .ok (.lcmp, 1) := by decide +kernel
theorem J_M_got_d40 : decode J_M_got.2.1 40 = .ok (.ifCond .ge 23, 3) := by decide +kernel
theorem J_M_got_d43 : decode J_M_got.2.1 43 = .ok (.lload_n 2, 1) := by decide +kernel
theorem J_M_got_d44 : decode J_M_got.2.1 44 = .ok (.aload_n 0, 1) := by decide +kernel
theorem J_M_got_d45 : decode J_M_got.2.1 45 = .ok (.getfield 55, 3) := by decide +kernel
theorem J_M_got_d48 : decode J_M_got.2.1 48 = .ok (.lload 5, 2) := by decide +kernel
theorem J_M_got_d50 : decode J_M_got.2.1 50 = .ok (.l2i, 1) := by decide +kernel
theorem J_M_got_d51 : decode J_M_got.2.1 51 = .ok (.iaload, 1) := by decide +kernel
theorem J_M_got_d52 : decode J_M_got.2.1 52 = .ok (.i2l, 1) := by decide +kernel
theorem J_M_got_d53 : decode J_M_got.2.1 53 = .ok (.bipush 8, 2) := by decide +kernel
theorem J_M_got_d55 : decode J_M_got.2.1 55 = .ok (.iload 4, 2) := by decide +kernel
theorem J_M_got_d57 : decode J_M_got.2.1 57 = .ok (.imul, 1) := by decide +kernel
theorem J_M_got_d58 : decode J_M_got.2.1 58 = .ok (.lshl, 1) := by decide +kernel
theorem J_M_got_d59 : decode J_M_got.2.1 59 = .ok (.lor, 1) := by decide +kernel
theorem J_M_got_d60 : decode J_M_got.2.1 60 = .ok (.goto 4, 3) := by decide +kernel
theorem J_M_got_d63 : decode J_M_got.2.1 63 = .ok (.lload_n 2, 1) := by decide +kernel
theorem J_M_got_d64 : decode J_M_got.2.1 64 = .ok (.lstore_n 2, 1) := by decide +kernel
theorem J_M_got_d65 : decode J_M_got.2.1 65 = .ok (.iinc 4 1, 3) := by decide +kernel
theorem J_M_got_d68 : decode J_M_got.2.1 68 = .ok (.goto (-58), 3) := by decide +kernel
theorem J_M_got_d71 : decode J_M_got.2.1 71 = .ok (.lload_n 2, 1) := by decide +kernel
theorem J_M_got_d72 : decode J_M_got.2.1 72 = .ok (.lreturn, 1) := by decide +kernel
theorem f_M_got_ok {L : Nat} {xs : Nat → Int32} {dep : Nat} {w : Bool} {p0 : Int32} {M : im_M} {Q : Int64 × im_M → Prop} (hM : lw_S w M) (h : ed (f_M_got p0 M) Q) : ia (tb_G L xs) dep J_M_got (rwL w Q) (0, lv_args 0 [.ref 69, .int p0], [], M) := by
  have hS : im_St (tb_G L xs) dep J_M_got (ia (tb_G L xs) dep J_M_got (rwL w Q)) := ia_St
  unfold f_M_got at h
  have l0 : im_lk (lv_args 0 [.ref 69, .int p0]) 0 = some (.ref 69) := rfl
  have l1 : im_lk (lv_args 0 [.ref 69, .int p0]) 1 = some (.int p0) := rfl
  refine iq_aload_n hS 1 J_M_got_d0 l0 rfl ?_
  refine iq_iconst hS 2 J_M_got_d1 (v := 0) (by decide +kernel) rfl ?_
  refine iq_putI hS 5 J_M_got_d2 lf_17_58 (Or.inl rfl) rfl (ka_69 hM) rfl ?_
  refine iq_lconst hS 6 J_M_got_d5 (v := 0) (by decide +kernel) rfl ?_
  refine iq_lstore_n hS 7 J_M_got_d6 (by decide) rfl ?_
  refine iq_iconst hS 8 J_M_got_d7 (v := 0) (by decide +kernel) rfl ?_
  refine iq_istore hS 10 J_M_got_d8 (by decide) rfl ?_
  obtain ⟨Q1, hQ1, h⟩ := bd1_ed h
  have K1 : ∀ (y2 : Int64) (L' : List (Nat × Value)), im_lk L' 2 = some (.long y2) → Q1 y2 → ia (tb_G L xs) dep J_M_got (rwL w Q) (71, L', [], (im_setI M 69 0 0)) := by
    intro y2 L' l3 h
    replace h := hQ1 _ h
    refine iq_lload_n hS 72 J_M_got_d71 l3 rfl ?_
    exact iq_lret J_M_got_d72 rfl ⟨_, rfl, hM, ed_some h⟩
  obtain ⟨r1, hr1, hq1⟩ := h
  obtain ⟨n1, hn1⟩ := lp_n hr1
  have I1 : ∀ (n : Nat) (x4 : Int64) (x5 : Int32) (L' : List (Nat × Value)), im_lk L' 0 = some (.ref 69) → im_lk L' 1 = some (.int p0) → im_lk L' 2 = some (.long x4) → im_lk L' 4 = some (.int x5) → lpn (uc2 (f_M_got_L10 p0 (im_setI M 69 0 0))) n (x4, x5) = some r1 → ia (tb_G L xs) dep J_M_got (rwL w Q) (10, L', [], (im_setI M 69 0 0)) := by
    intro n
    induction n with
    | zero => intro x4 x5 L' l6 l7 l8 l9 hn; exact (lpn_0 hn).elim
    | succ n ih =>
      intro x4 x5 L' l6 l7 l8 l9 hn
      have h := lpn_ed2 hn
      unfold f_M_got_L10 at h
      refine iq_iload hS 12 J_M_got_d10 l9 rfl ?_
      refine iq_bipush hS 14 J_M_got_d12 (v := 8) (by decide +kernel) rfl ?_
      refine iq_icmp_ge hS 17 J_M_got_d14 (t := 71) rfl (fun q14 => ?_) rfl (fun q14 => ?_)
      · replace h := ed_pos q14 h
        exact K1 _ _ l8 (lq_r h hq1)
      · replace h := ed_neg q14 h
        refine iq_iload_n hS 18 J_M_got_d17 l7 rfl ?_
        refine iq_i2l hS 19 J_M_got_d18 rfl ?_
        refine iq_iload hS 21 J_M_got_d19 l9 rfl ?_
        refine iq_i2l hS 22 J_M_got_d21 rfl ?_
        refine iq_ladd hS 23 J_M_got_d22 rfl ?_
        refine iq_lstore hS 25 J_M_got_d23 (by decide) rfl ?_
        refine iq_lload hS 27 J_M_got_d25 lk_2s rfl ?_
        refine iq_lconst hS 28 J_M_got_d27 (v := 0) (by decide +kernel) rfl ?_
        refine iq_lcmp hS 29 J_M_got_d28 rfl ?_
        obtain ⟨Q10, hQ10, h⟩ := bd1_ed h
        have J10 : ∀ (y16 : Int64) (L' : List (Nat × Value)), im_lk L' 0 = some (.ref 69) → im_lk L' 1 = some (.int p0) → im_lk L' 4 = some (.int x5) → Q10 y16 → ia (tb_G L xs) dep J_M_got (rwL w Q) (64, L', [.long y16], (im_setI M 69 0 0)) := by
          intro y16 L' l17 l18 l19 h
          replace h := hQ10 _ h
          refine iq_lstore_n hS 65 J_M_got_d64 (by decide) rfl ?_
          refine iq_iincv hS 68 J_M_got_d65 (c := 1) (by decide +kernel) (lk_2i l19 (by decide) (by decide)) (by decide) rfl ?_
          refine iq_goto hS J_M_got_d68 (t := 10) rfl ?_
          exact ih _ _ _ (lk_1r (lk_2r l17 (by decide) (by decide)) (by decide)) (lk_1i (lk_2i l18 (by decide) (by decide)) (by decide)) (lk_1l lk_2s (by decide) (by decide)) lk_1s (lq_l h)
        obtain ⟨k11, Q11, hQ11, hk11, h⟩ := jn0_ed h
        have J11 : ∀  (L' : List (Nat × Value)), im_lk L' 0 = some (.ref 69) → im_lk L' 1 = some (.int p0) → im_lk L' 2 = some (.long x4) → im_lk L' 4 = some (.int x5) → Q11 () → ia (tb_G L xs) dep J_M_got (rwL w Q) (63, L', [], (im_setI M 69 0 0)) := by
          intro  L' l12 l13 l14 l15 h
          replace h := hQ11  h
          refine iq_lload_n hS 64 J_M_got_d63 l14 rfl ?_
          exact J10 _ _ l12 l13 l15 (ed_some h)
        refine iq_if_lt hS 32 J_M_got_d29 (t := 63) rfl (fun q29 => ?_) rfl (fun q29 => ?_)
        · replace h := ed_pos q29 h
          exact J11  _ (lk_2r l6 (by decide) (by decide)) (lk_2i l7 (by decide) (by decide)) (lk_2l l8 (by decide) (by decide) (by decide)) (lk_2i l9 (by decide) (by decide)) (hk11  h)
        · replace h := ed_neg q29 h
          refine iq_lload hS 34 J_M_got_d32 lk_2s rfl ?_
          refine iq_aload_n hS 35 J_M_got_d34 (lk_2r l6 (by decide) (by decide)) rfl ?_
          refine iq_getI hS 38 J_M_got_d35 lf_17_229 (Or.inl rfl) (ka_69 hM) rfl ?_
          refine iq_i2l hS 39 J_M_got_d38 rfl ?_
          refine iq_lcmp hS 40 J_M_got_d39 rfl ?_
          refine iq_if_ge hS 43 J_M_got_d40 (t := 63) rfl (fun q40 => ?_) rfl (fun q40 => ?_)
          · replace h := ed_pos q40 h
            exact J11  _ (lk_2r l6 (by decide) (by decide)) (lk_2i l7 (by decide) (by decide)) (lk_2l l8 (by decide) (by decide) (by decide)) (lk_2i l9 (by decide) (by decide)) (hk11  h)
          · replace h := ed_neg q40 h
            refine iq_lload_n hS 44 J_M_got_d43 (lk_2l l8 (by decide) (by decide) (by decide)) rfl ?_
            refine iq_aload_n hS 45 J_M_got_d44 (lk_2r l6 (by decide) (by decide)) rfl ?_
            refine iq_getR hS 48 J_M_got_d45 lf_17_55 (Or.inr ⟨_, rfl⟩) (ka_69 hM) (ra_69_11 hM) rfl ?_
            refine iq_lload hS 50 J_M_got_d48 lk_2s rfl ?_
            refine iq_l2i hS 51 J_M_got_d50 rfl ?_
            obtain ⟨g51, h⟩ := ed_gd h
            refine iq_iaload hS 52 J_M_got_d51 ⟨(ka_137 hM).1, (ka_137 hM).2, g51.1, ix_lt (kl_137 hM) g51.2⟩ rfl ?_
            refine iq_i2l hS 53 J_M_got_d52 rfl ?_
            refine iq_bipush hS 55 J_M_got_d53 (v := 8) (by decide +kernel) rfl ?_
            refine iq_iload hS 57 J_M_got_d55 (lk_2i l9 (by decide) (by decide)) rfl ?_
            refine iq_imul hS 58 J_M_got_d57 rfl ?_
            refine iq_lshl hS 59 J_M_got_d58 rfl ?_
            refine iq_lor hS 60 J_M_got_d59 rfl ?_
            refine iq_goto hS J_M_got_d60 (t := 64) rfl ?_
            exact J10 _ _ (lk_2r l6 (by decide) (by decide)) (lk_2i l7 (by decide) (by decide)) (lk_2i l9 (by decide) (by decide)) (ed_some h)
  exact I1 n1 _ _ _ (lk_1r (lk_2r l0 (by decide) (by decide)) (by decide)) (lk_1i (lk_2i l1 (by decide) (by decide)) (by decide)) (lk_1l lk_2s (by decide) (by decide)) lk_1s hn1
